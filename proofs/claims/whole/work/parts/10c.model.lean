abbrev rm_X11_tries : Room := { frames := 3, cells := 0, slots := 0, locals := 67 }
set_option maxRecDepth 100000 in
set_option maxHeartbeats 4000000 in
theorem c_X11_tries (l : Launch) (X : XT) (fu : Nat) (p1 : Int32) (p2 : Int32) (M : Mem)  (rs : (Int32 × Mem)) (hf : f_X11_tries fu p1 p2 M = some rs) (sz : Nat) : Met l yX11_tries (wbig yX11_tries cX11_tries 3 (some .int)) rm_X11_tries (va_Pc [.ref (X.2.2 0), .int p1, .int p2] (PW LM X M sz)) (QI LM X rs.2 rs.1 sz) 0 0 (AX LM X sz) := by
  refine met_go (L := LM) (M := M) (by decide +kernel) (Nat.le_of_ble_eq_true rfl) ?_
  intro p e s m args below meth c hsz B hr hlk hw ls hl
  subst hsz
  have hx := B.hx
  have hb := B.hb
  have hl : lv_has ls 3 [(0, .ref (X.2.2 0)), (1, .int p1), (2, .int p2)] := hl
  generalize hQ : MQ below _ args s 0 0 (AX LM X s.heap.size) = Q
  unfold f_X11_tries at hf
  refine lv_aload_n hx hb dX11_tries_0 rfl (lv_at hl 0 rfl) ?_
  refine gt_X11_47 B hw dX11_tries_1 ?_
  refine lv_iload_n hx hb dX11_tries_4 rfl (lv_at hl 1 rfl) ?_
  obtain ⟨g_1, hf⟩ := grd_e hf
  refine m_iald B hw (i := 13) rfl g_1 dX11_tries_5 ?_
  refine lv_aload_n hx hb dX11_tries_6 rfl (lv_at hl 0 rfl) ?_
  refine gt_X11_235 B hw dX11_tries_7 ?_
  refine lv_bipush (v := 10) hx hb dX11_tries_10 (by decide) ?_
  refine lv_idiv hx hb dX11_tries_12 (by decide) ?_
  refine jn_e hf (fun kk => ∀ (M_3 : Mem) (H : Heap) (locs : List Loc) (ls : Array Slot), HW LM X M_3 s H locs → lv_has ls 3 [(0, .ref (X.2.2 0)), (1, .int p1), (2, .int p2)] → kk M_3 = some rs → W p l e rm_X11_tries s m args below meth c H locs 0 0 Q (F0 m 45 ls [])) ?_ (fun k45_2 J45_2 hf => ?_)
  · intro M_3 H locs ls hw hl hf
    refine lv_iload_n hx hb dX11_tries_45 rfl (lv_at hl 2 rfl) ?_
    refine jn_e hf (fun kk => ∀ (_ : Unit) (H : Heap) (locs : List Loc) (ls : Array Slot), HW LM X M_3 s H locs → lv_has ls 3 [(0, .ref (X.2.2 0)), (1, .int p1), (2, .int p2)] → kk () = some rs → W p l e rm_X11_tries s m args below meth c H locs 0 0 Q (F0 m 67 ls [])) ?_ (fun k67_4 J67_4 hf => ?_)
    · intro _ H locs ls hw hl hf
      refine lv_aload_n hx hb dX11_tries_67 rfl (lv_at hl 0 rfl) ?_
      refine gt_X11_50 B hw dX11_tries_68 ?_
      refine lv_iload_n hx hb dX11_tries_71 rfl (lv_at hl 1 rfl) ?_
      refine lv_aload_n hx hb dX11_tries_72 rfl (lv_at hl 0 rfl) ?_
      refine gt_X11_47 B hw dX11_tries_73 ?_
      refine lv_iload_n hx hb dX11_tries_76 rfl (lv_at hl 1 rfl) ?_
      refine m_iald B hw (i := 13) rfl g_1 dX11_tries_77 ?_
      refine lv_aload_n hx hb dX11_tries_78 rfl (lv_at hl 0 rfl) ?_
      refine gt_X11_235 B hw dX11_tries_79 ?_
      refine lv_bipush (v := 10) hx hb dX11_tries_82 (by decide) ?_
      refine lv_idiv hx hb dX11_tries_84 (by decide) ?_
      refine nmv_e hf (fun kk => ∀ (H : Heap) (locs : List Loc), HW LM X M_3 s H locs → W p l e rm_X11_tries s m args below meth c H locs 0 0 Q (F0 m 100 ls [.int kk, .int p1, .ref (X.2.2 14)])) (fun J => ?_) (fun v_6 hf H locs hw => ?_)
      · refine lv_icmp_ne (tgt := 99) hx hb dX11_tries_85 (by decide) (fun c_5 => ?_) (fun c_5 => ?_)
        · rw [if_neg c_5] at J
          refine lv_iconst (v := 1) hx hb dX11_tries_99 (by decide) ?_
          exact J _ _ hw
        · rw [if_pos c_5] at J
          refine lv_aload_n hx hb dX11_tries_88 rfl (lv_at hl 0 rfl) ?_
          refine gt_X11_50 B hw dX11_tries_89 ?_
          refine lv_iload_n hx hb dX11_tries_92 rfl (lv_at hl 1 rfl) ?_
          refine m_iald B hw (i := 14) rfl g_1 dX11_tries_93 ?_
          refine lv_iconst (v := 1) hx hb dX11_tries_94 (by decide) ?_
          refine lv_iadd hx hb dX11_tries_95 ?_
          refine lv_goto (tgt := 100) hx hb dX11_tries_96 (by decide) ?_
          exact J _ _ hw
      · refine m_iast B hw (i := 14) rfl g_1 dX11_tries_100 hf (fun M_7 H locs hw hf => ?_)
        refine lv_aload_n hx hb dX11_tries_101 rfl (lv_at hl 0 rfl) ?_
        refine gt_X11_47 B hw dX11_tries_102 ?_
        refine lv_iload_n hx hb dX11_tries_105 rfl (lv_at hl 1 rfl) ?_
        refine lv_aload_n hx hb dX11_tries_106 rfl (lv_at hl 0 rfl) ?_
        refine gt_X11_235 B hw dX11_tries_107 ?_
        refine lv_bipush (v := 10) hx hb dX11_tries_110 (by decide) ?_
        refine lv_idiv hx hb dX11_tries_112 (by decide) ?_
        refine m_iast B hw (i := 13) rfl g_1 dX11_tries_113 hf (fun M_8 H locs hw hf => ?_)
        refine lv_aload_n hx hb dX11_tries_114 rfl (lv_at hl 0 rfl) ?_
        refine lv_aload_n hx hb dX11_tries_115 rfl (lv_at hl 0 rfl) ?_
        refine gt_X11_25 B hw dX11_tries_116 ?_
        refine lv_iload_n hx hb dX11_tries_119 rfl (lv_at hl 1 rfl) ?_
        refine m_iald B hw (i := 6) rfl g_1 dX11_tries_120 ?_
        obtain ⟨M_10, h_9, hf⟩ := bd_e hf
        refine q_callVv (M' := M_10) (i := 0) (As := [.int (M_8 6 p1.toNatClampNeg)]) (rest := []) B hw (c_X11_goes l X fu (M_8 6 p1.toNatClampNeg) M_8 M_10 h_9 _) cv_X11_296 (rc_11 B hw) rfl hl.1 rfl rfl ⟨Nat.le_of_ble_eq_true rfl, Nat.le_of_ble_eq_true rfl⟩ (Nat.le_of_ble_eq_true rfl) ⟨Nat.le_of_ble_eq_true rfl, Nat.le_of_ble_eq_true rfl⟩ dX11_tries_121 rfl (fun H locs hw => ?_)
        refine lv_iload_n hx hb dX11_tries_124 rfl (lv_at hl 2 rfl) ?_
        refine jn_e hf (fun kk => ∀ (M_12 : Mem) (H : Heap) (locs : List Loc) (ls : Array Slot), HW LM X M_12 s H locs → lv_has ls 3 [(0, .ref (X.2.2 0)), (1, .int p1)] → kk M_12 = some rs → W p l e rm_X11_tries s m args below meth c H locs 0 0 Q (F0 m 148 ls [])) ?_ (fun k148_11 J148_11 hf => ?_)
        · intro M_12 H locs ls hw hl hf
          refine lv_aload_n hx hb dX11_tries_148 rfl (lv_at hl 0 rfl) ?_
          refine gt_X11_40 B hw dX11_tries_149 ?_
          refine lv_iload_n hx hb dX11_tries_152 rfl (lv_at hl 1 rfl) ?_
          refine m_iald B hw (i := 11) rfl g_1 dX11_tries_153 ?_
          refine lv_if_le (tgt := 169) hx hb dX11_tries_154 (by decide) (fun c_13 => ?_) (fun c_13 => ?_)
          · have hf := it_e hf c_13
            refine lv_iconst (v := 2) hx hb dX11_tries_169 (by decide) ?_
            cases hf
            subst hQ
            exact q_iret B hr hlk hw rfl rfl dX11_tries_170
          · have hf := ie_e hf c_13
            refine lv_aload_n hx hb dX11_tries_157 rfl (lv_at hl 0 rfl) ?_
            refine gt_X11_40 B hw dX11_tries_158 ?_
            refine lv_iload_n hx hb dX11_tries_161 rfl (lv_at hl 1 rfl) ?_
            refine lv_dup2_11 hx hb dX11_tries_162 rfl rfl ?_
            refine m_iald B hw (i := 11) rfl g_1 dX11_tries_163 ?_
            refine lv_iconst (v := 1) hx hb dX11_tries_164 (by decide) ?_
            refine lv_isub hx hb dX11_tries_165 ?_
            refine m_iast B hw (i := 11) rfl g_1 dX11_tries_166 hf (fun M_14 H locs hw hf => ?_)
            refine lv_iconst (v := 1) hx hb dX11_tries_167 (by decide) ?_
            cases hf
            subst hQ
            exact q_iret B hr hlk hw rfl rfl dX11_tries_168
        refine lv_if_eq (tgt := 148) hx hb dX11_tries_125 (by decide) (fun c_15 => ?_) (fun c_15 => ?_)
        · have hf := it_e hf c_15
          exact J148_11 M_10 _ _ _ hw (lv_sub hl [0, 1] rfl) hf
        · have hf := ie_e hf c_15
          refine lv_aload_n hx hb dX11_tries_128 rfl (lv_at hl 0 rfl) ?_
          refine lv_dup hx hb dX11_tries_129 rfl ?_
          refine gt_X11_336 B hw dX11_tries_130 ?_
          refine lv_iconst (v := 1) hx hb dX11_tries_133 (by decide) ?_
          refine lv_iadd hx hb dX11_tries_134 ?_
          refine pt_X11_336 B hw dX11_tries_135 hf (fun M_16 H locs hw hf => ?_)
          refine lv_aload_n hx hb dX11_tries_138 rfl (lv_at hl 0 rfl) ?_
          refine lv_aload_n hx hb dX11_tries_139 rfl (lv_at hl 0 rfl) ?_
          refine gt_X11_53 B hw dX11_tries_140 ?_
          refine lv_iload_n hx hb dX11_tries_143 rfl (lv_at hl 1 rfl) ?_
          refine m_iald B hw (i := 15) rfl g_1 dX11_tries_144 ?_
          obtain ⟨M_18, h_17, hf⟩ := bd_e hf
          refine q_callVv (M' := M_18) (i := 0) (As := [.int (M_16 15 p1.toNatClampNeg)]) (rest := []) B hw (c_X11_pays l X fu (M_16 15 p1.toNatClampNeg) M_16 M_18 h_17 _) cv_X11_339 (rc_11 B hw) rfl hl.1 rfl rfl ⟨Nat.le_of_ble_eq_true rfl, Nat.le_of_ble_eq_true rfl⟩ (Nat.le_of_ble_eq_true rfl) ⟨Nat.le_of_ble_eq_true rfl, Nat.le_of_ble_eq_true rfl⟩ dX11_tries_145 rfl (fun H locs hw => ?_)
          exact J148_11 M_18 _ _ _ hw (lv_sub hl [0, 1] rfl) hf
    refine lv_if_eq (tgt := 67) hx hb dX11_tries_46 (by decide) (fun c_19 => ?_) (fun c_19 => ?_)
    · have hf := it_e hf c_19
      exact J67_4 () _ _ _ hw (lv_sub hl [0, 1, 2] rfl) hf
    · have hf := ie_e hf c_19
      refine lv_aload_n hx hb dX11_tries_49 rfl (lv_at hl 0 rfl) ?_
      refine gt_X11_235 B hw dX11_tries_50 ?_
      refine lv_aload_n hx hb dX11_tries_53 rfl (lv_at hl 0 rfl) ?_
      refine gt_X11_330 B hw dX11_tries_54 ?_
      refine lv_isub hx hb dX11_tries_57 ?_
      refine lv_aload_n hx hb dX11_tries_58 rfl (lv_at hl 0 rfl) ?_
      refine gt_X11_333 B hw dX11_tries_59 ?_
      refine lv_icmp_le (tgt := 67) hx hb dX11_tries_62 (by decide) (fun c_20 => ?_) (fun c_20 => ?_)
      · have hf := it_e hf c_20
        exact J67_4 () _ _ _ hw (lv_sub hl [0, 1, 2] rfl) hf
      · have hf := ie_e hf c_20
        refine lv_iconst (v := 0) hx hb dX11_tries_65 (by decide) ?_
        cases hf
        subst hQ
        exact q_iret B hr hlk hw rfl rfl dX11_tries_66
  refine lv_icmp_ne (tgt := 45) hx hb dX11_tries_13 (by decide) (fun c_21 => ?_) (fun c_21 => ?_)
  · have hf := ie_e hf c_21
    exact J45_2 M _ _ _ hw (lv_sub hl [0, 1, 2] rfl) hf
  · have hf := it_e hf c_21
    refine lv_aload_n hx hb dX11_tries_16 rfl (lv_at hl 0 rfl) ?_
    refine gt_X11_50 B hw dX11_tries_17 ?_
    refine lv_iload_n hx hb dX11_tries_20 rfl (lv_at hl 1 rfl) ?_
    refine m_iald B hw (i := 14) rfl g_1 dX11_tries_21 ?_
    refine lv_aload_n hx hb dX11_tries_22 rfl (lv_at hl 0 rfl) ?_
    refine gt_X11_31 B hw dX11_tries_23 ?_
    refine lv_iload_n hx hb dX11_tries_26 rfl (lv_at hl 1 rfl) ?_
    refine m_iald B hw (i := 8) rfl g_1 dX11_tries_27 ?_
    refine lv_icmp_lt (tgt := 45) hx hb dX11_tries_28 (by decide) (fun c_22 => ?_) (fun c_22 => ?_)
    · have hf := it_e hf c_22
      exact J45_2 M _ _ _ hw (lv_sub hl [0, 1, 2] rfl) hf
    · have hf := ie_e hf c_22
      refine lv_aload_n hx hb dX11_tries_31 rfl (lv_at hl 0 rfl) ?_
      refine lv_bipush (v := 10) hx hb dX11_tries_32 (by decide) ?_
      refine lv_aload_n hx hb dX11_tries_34 rfl (lv_at hl 0 rfl) ?_
      refine gt_X11_235 B hw dX11_tries_35 ?_
      refine lv_bipush (v := 10) hx hb dX11_tries_38 (by decide) ?_
      refine lv_irem hx hb dX11_tries_40 (by decide) ?_
      refine lv_isub hx hb dX11_tries_41 ?_
      obtain ⟨M_24, h_23, hf⟩ := bd_e hf
      refine q_callVv (M' := M_24) (i := 0) (As := [.int (10 - ((M 0 8) - (M 0 8) / 10 * 10))]) (rest := []) B hw (c_X11_goes l X fu (10 - ((M 0 8) - (M 0 8) / 10 * 10)) M M_24 h_23 _) cv_X11_296 (rc_11 B hw) rfl hl.1 rfl rfl ⟨Nat.le_of_ble_eq_true rfl, Nat.le_of_ble_eq_true rfl⟩ (Nat.le_of_ble_eq_true rfl) ⟨Nat.le_of_ble_eq_true rfl, Nat.le_of_ble_eq_true rfl⟩ dX11_tries_42 rfl (fun H locs hw => ?_)
      exact J45_2 M_24 _ _ _ hw (lv_sub hl [0, 1, 2] rfl) hf
abbrev rm_X11_requests : Room := { frames := 4, cells := 0, slots := 0, locals := 89 }
set_option maxRecDepth 100000 in
set_option maxHeartbeats 4000000 in
theorem c_X11_requests (l : Launch) (X : XT) (fu : Nat) (p1 : Int32) (M : Mem)  (rs : (Int32 × Mem)) (hf : f_X11_requests fu p1 M = some rs) (sz : Nat) : Met l yX11_requests (wbig yX11_requests cX11_requests 4 (some .boolean)) rm_X11_requests (va_Pc [.ref (X.2.2 0), .int p1] (PW LM X M sz)) (QI LM X rs.2 rs.1 sz) 0 0 (AX LM X sz) := by
  refine met_go (L := LM) (M := M) (by decide +kernel) (Nat.le_of_ble_eq_true rfl) ?_
  intro p e s m args below meth c hsz B hr hlk hw ls hl
  subst hsz
  have hx := B.hx
  have hb := B.hb
  have hl : lv_has ls 4 [(0, .ref (X.2.2 0)), (1, .int p1)] := hl
  generalize hQ : MQ below _ args s 0 0 (AX LM X s.heap.size) = Q
  unfold f_X11_requests at hf
  refine lv_iconst (v := 1) hx hb dX11_requests_0 (by decide) ?_
  refine lv_istore_n (lv' := [(2, .int 1), (0, .ref (X.2.2 0)), (1, .int p1)]) hx hb dX11_requests_1 rfl hl (by decide) rfl (fun ls hl => ?_)
  refine lv_iconst (v := 0) hx hb dX11_requests_2 (by decide) ?_
  refine lv_istore_n (lv' := [(3, .int 0), (2, .int 1), (0, .ref (X.2.2 0)), (1, .int p1)]) hx hb dX11_requests_3 rfl hl (by decide) rfl (fun ls hl => ?_)
  refine jn_e hf (fun kk => ∀ (x2_2 : Int32) (M_3 : Mem) (H : Heap) (locs : List Loc) (ls : Array Slot), HW LM X M_3 s H locs → lv_has ls 4 [(2, .int x2_2)] → kk x2_2 M_3 = some rs → W p l e rm_X11_requests s m args below meth c H locs 0 0 Q (F0 m 27 ls [])) ?_ (fun k27_1 J27_1 hf => ?_)
  · intro x2_2 M_3 H locs ls hw hl hf
    refine lv_iload_n hx hb dX11_requests_27 rfl (lv_at hl 0 rfl) ?_
    refine lv_iconst (v := 2) hx hb dX11_requests_28 (by decide) ?_
    refine lv_icmp_ne (tgt := 36) hx hb dX11_requests_29 (by decide) (fun c_4 => ?_) (fun c_4 => ?_)
    · have hf := ie_e hf c_4
      refine lv_iconst (v := 0) hx hb dX11_requests_36 (by decide) ?_
      cases hf
      subst hQ
      exact q_zret B hr hlk rfl hw rfl rfl dX11_requests_37
    · have hf := it_e hf c_4
      refine lv_iconst (v := 1) hx hb dX11_requests_32 (by decide) ?_
      refine lv_goto (tgt := 37) hx hb dX11_requests_33 (by decide) ?_
      cases hf
      subst hQ
      exact q_zret B hr hlk rfl hw rfl rfl dX11_requests_37
  have hL_4 : ∀ (n_4 : Nat) (x2_5 : Int32) (x3_6 : Int32) (M_7 : Mem) (H : Heap) (locs : List Loc) (ls : Array Slot), HW LM X M_7 s H locs → lv_has ls 4 [(0, .ref (X.2.2 0)), (1, .int p1), (2, .int x2_5), (3, .int x3_6)] → f_X11_requests_L4 fu p1 k27_1 n_4 x2_5 x3_6 M_7 = some rs → W p l e rm_X11_requests s m args below meth c H locs 0 0 Q (F0 m 4 ls []) := by
    intro n_4
    induction n_4 with
    | zero => intro x2_5 x3_6 M_7 H locs ls hw hl hf; exact no_none hf
    | succ n_4 ih_4 =>
      intro x2_5 x3_6 M_7 H locs ls hw hl hf
      rw [f_X11_requests_L4] at hf
      refine lv_iload_n hx hb dX11_requests_4 rfl (lv_at hl 3 rfl) ?_
      refine lv_iconst (v := 3) hx hb dX11_requests_5 (by decide) ?_
      refine lv_icmp_ge (tgt := 27) hx hb dX11_requests_6 (by decide) (fun c_8 => ?_) (fun c_8 => ?_)
      · have hf := it_e hf c_8
        exact J27_1 x2_5 M_7 _ _ _ hw (lv_sub hl [2] rfl) hf
      · have hf := ie_e hf c_8
        refine lv_iload_n hx hb dX11_requests_9 rfl (lv_at hl 2 rfl) ?_
        refine lv_iconst (v := 1) hx hb dX11_requests_10 (by decide) ?_
        refine lv_icmp_ne (tgt := 27) hx hb dX11_requests_11 (by decide) (fun c_9 => ?_) (fun c_9 => ?_)
        · have hf := ie_e hf c_9
          exact J27_1 x2_5 M_7 _ _ _ hw (lv_sub hl [2] rfl) hf
        · have hf := it_e hf c_9
          refine lv_aload_n hx hb dX11_requests_14 rfl (lv_at hl 0 rfl) ?_
          refine lv_iload_n hx hb dX11_requests_15 rfl (lv_at hl 1 rfl) ?_
          refine lv_iconst (v := 1) hx hb dX11_requests_16 (by decide) ?_
          obtain ⟨r_11, M_12, h_10, hf⟩ := bm_e hf
          refine q_callVi (M' := M_12) (i := 0) (As := [.int p1, .int 1]) (rest := []) B hw (c_X11_tries l X fu p1 1 M_7 (r_11, M_12) h_10 _) cv_X11_348 (rc_11 B hw) rfl hl.1 rfl rfl ⟨Nat.le_of_ble_eq_true rfl, Nat.le_of_ble_eq_true rfl⟩ (Nat.le_of_ble_eq_true rfl) ⟨Nat.le_of_ble_eq_true rfl, Nat.le_of_ble_eq_true rfl⟩ dX11_requests_17 rfl (fun H locs hw => ?_)
          refine lv_istore_n (lv' := [(2, .int r_11), (0, .ref (X.2.2 0)), (1, .int p1), (3, .int x3_6)]) hx hb dX11_requests_20 rfl hl (by decide) rfl (fun ls hl => ?_)
          refine r_iinc (v := (x3_6 + 1)) hx hb dX11_requests_21 hl (k := 3) rfl rfl (by decide) hf (fun x3_13 ls hl hf => ?_)
          have hl : lv_has ls 4 [(3, .int x3_13), (2, .int r_11), (0, .ref (X.2.2 0)), (1, .int p1)] := hl
          refine lv_goto (tgt := 4) hx hb dX11_requests_24 (by decide) ?_
          exact ih_4 r_11 x3_13 M_12 _ _ _ hw (lv_sub hl [2, 3, 1, 0] rfl) hf
  exact hL_4 fu 1 0 M _ _ _ hw (lv_sub hl [2, 3, 1, 0] rfl) hf
abbrev rm_X11_isKey : Room := { frames := 0, cells := 0, slots := 0, locals := 0 }
set_option maxRecDepth 100000 in
set_option maxHeartbeats 4000000 in
theorem c_X11_isKey (l : Launch) (X : XT) (fu : Nat) (p1 : Int32) (p2 : Int32) (p3 : Int32) (M : Mem)  (rs : Int32) (hf : f_X11_isKey fu p1 p2 p3 M = some rs) (sz : Nat) : Met l yX11_isKey (wbig yX11_isKey cX11_isKey 6 (some .boolean)) rm_X11_isKey (va_Pc [.ref (X.2.2 0), .int p1, .int p2, .int p3] (PW LM X M sz)) (QI LM X M rs sz) 0 0 (AX LM X sz) := by
  refine met_go (L := LM) (M := M) (by decide +kernel) (Nat.le_of_ble_eq_true rfl) ?_
  intro p e s m args below meth c hsz B hr hlk hw ls hl
  subst hsz
  have hx := B.hx
  have hb := B.hb
  have hl : lv_has ls 6 [(0, .ref (X.2.2 0)), (1, .int p1), (2, .int p2), (3, .int p3)] := hl
  generalize hQ : MQ below _ args s 0 0 (AX LM X s.heap.size) = Q
  unfold f_X11_isKey at hf
  refine lv_iconst (v := 0) hx hb dX11_isKey_0 (by decide) ?_
  refine lv_istore (lv' := [(4, .int 0), (0, .ref (X.2.2 0)), (1, .int p1), (2, .int p2), (3, .int p3)]) hx hb dX11_isKey_1 hl (by decide) rfl (fun ls hl => ?_)
  refine lv_iload_n hx hb dX11_isKey_3 rfl (lv_at hl 3 rfl) ?_
  refine lv_istore (lv' := [(5, .int p2), (4, .int 0), (0, .ref (X.2.2 0)), (1, .int p1), (2, .int p2), (3, .int p3)]) hx hb dX11_isKey_4 hl (by decide) rfl (fun ls hl => ?_)
  have hL_6 : ∀ (n_6 : Nat) (x4_1 : Int32) (x5_2 : Int32) (H : Heap) (locs : List Loc) (ls : Array Slot), HW LM X M s H locs → lv_has ls 6 [(0, .ref (X.2.2 0)), (1, .int p1), (3, .int p3), (4, .int x4_1), (5, .int x5_2)] → f_X11_isKey_L6 fu p1 p3 M n_6 x4_1 x5_2 = some rs → W p l e rm_X11_isKey s m args below meth c H locs 0 0 Q (F0 m 6 ls []) := by
    intro n_6
    induction n_6 with
    | zero => intro x4_1 x5_2 H locs ls hw hl hf; exact no_none hf
    | succ n_6 ih_6 =>
      intro x4_1 x5_2 H locs ls hw hl hf
      rw [f_X11_isKey_L6] at hf
      refine lv_iload hx hb dX11_isKey_6 (lv_at hl 4 rfl) ?_
      refine lv_iload_n hx hb dX11_isKey_8 rfl (lv_at hl 2 rfl) ?_
      refine lv_icmp_ge (tgt := 41) hx hb dX11_isKey_9 (by decide) (fun c_3 => ?_) (fun c_3 => ?_)
      · have hf := it_e hf c_3
        refine lv_iload hx hb dX11_isKey_41 (lv_at hl 3 rfl) ?_
        obtain ⟨g_4, hf⟩ := grd_e hf
        cases hf
        subst hQ
        exact q_zret B hr hlk g_4 hw rfl rfl dX11_isKey_43
      · have hf := ie_e hf c_3
        refine lv_iload hx hb dX11_isKey_12 (lv_at hl 3 rfl) ?_
        refine jn_e hf (fun kk => ∀ (_ : Unit) (H : Heap) (locs : List Loc) (ls : Array Slot), HW LM X M s H locs → lv_has ls 6 [(0, .ref (X.2.2 0)), (1, .int p1), (3, .int p3), (5, .int x5_2)] → kk () = some rs → W p l e rm_X11_isKey s m args below meth c H locs 0 0 Q (F0 m 28 ls [])) ?_ (fun k28_5 J28_5 hf => ?_)
        · intro _ H locs ls hw hl hf
          refine lv_iconst (v := 1) hx hb dX11_isKey_28 (by decide) ?_
          refine lv_goto (tgt := 33) hx hb dX11_isKey_29 (by decide) ?_
          refine lv_istore (lv' := [(4, .int 1), (0, .ref (X.2.2 0)), (1, .int p1), (3, .int p3), (5, .int x5_2)]) hx hb dX11_isKey_33 hl (by decide) rfl (fun ls hl => ?_)
          refine r_iinc (v := (x5_2 + 1)) hx hb dX11_isKey_35 hl (k := 4) rfl rfl (by decide) hf (fun x5_6 ls hl hf => ?_)
          have hl : lv_has ls 6 [(5, .int x5_6), (4, .int 1), (0, .ref (X.2.2 0)), (1, .int p1), (3, .int p3)] := hl
          refine lv_goto (tgt := 6) hx hb dX11_isKey_38 (by decide) ?_
          exact ih_6 1 x5_6 _ _ _ hw (lv_sub hl [2, 3, 4, 1, 0] rfl) hf
        refine lv_if_ne (tgt := 28) hx hb dX11_isKey_14 (by decide) (fun c_7 => ?_) (fun c_7 => ?_)
        · have hf := ie_e hf c_7
          exact J28_5 () _ _ _ hw (lv_sub hl [0, 1, 2, 4] rfl) hf
        · have hf := it_e hf c_7
          refine lv_aload_n hx hb dX11_isKey_17 rfl (lv_at hl 0 rfl) ?_
          refine gt_X11_156 B hw dX11_isKey_18 ?_
          refine lv_iload hx hb dX11_isKey_21 (lv_at hl 4 rfl) ?_
          obtain ⟨g_8, hf⟩ := grd_e hf
          refine m_iald B hw (i := 48) rfl g_8 dX11_isKey_23 ?_
          refine lv_iload_n hx hb dX11_isKey_24 rfl (lv_at hl 1 rfl) ?_
          refine lv_icmp_ne (tgt := 32) hx hb dX11_isKey_25 (by decide) (fun c_9 => ?_) (fun c_9 => ?_)
          · have hf := ie_e hf c_9
            refine lv_iconst (v := 0) hx hb dX11_isKey_32 (by decide) ?_
            refine lv_istore (lv' := [(4, .int 0), (0, .ref (X.2.2 0)), (1, .int p1), (3, .int p3), (5, .int x5_2)]) hx hb dX11_isKey_33 hl (by decide) rfl (fun ls hl => ?_)
            refine r_iinc (v := (x5_2 + 1)) hx hb dX11_isKey_35 hl (k := 4) rfl rfl (by decide) hf (fun x5_10 ls hl hf => ?_)
            have hl : lv_has ls 6 [(5, .int x5_10), (4, .int 0), (0, .ref (X.2.2 0)), (1, .int p1), (3, .int p3)] := hl
            refine lv_goto (tgt := 6) hx hb dX11_isKey_38 (by decide) ?_
            exact ih_6 0 x5_10 _ _ _ hw (lv_sub hl [2, 3, 4, 1, 0] rfl) hf
          · have hf := it_e hf c_9
            exact J28_5 () _ _ _ hw (lv_sub hl [0, 1, 2, 4] rfl) hf
  exact hL_6 fu 0 p2 _ _ _ hw (lv_sub hl [2, 3, 5, 1, 0] rfl) hf
abbrev rm_X11_lays : Room := { frames := 0, cells := 0, slots := 0, locals := 0 }
set_option maxRecDepth 100000 in
set_option maxHeartbeats 4000000 in
theorem c_X11_lays (l : Launch) (X : XT) (fu : Nat) (p1 : Int32) (p2 : Int32) (M : Mem)  (rs : Mem) (hf : f_X11_lays fu p1 p2 M = some rs) (sz : Nat) : Met l yX11_lays (wbig yX11_lays cX11_lays 7 none) rm_X11_lays (va_Pc [.ref (X.2.2 0), .int p1, .int p2] (PW LM X M sz)) (QV LM X rs sz) 0 0 (AX LM X sz) := by
  refine met_go (L := LM) (M := M) (by decide +kernel) (Nat.le_of_ble_eq_true rfl) ?_
  intro p e s m args below meth c hsz B hr hlk hw ls hl
  subst hsz
  have hx := B.hx
  have hb := B.hb
  have hl : lv_has ls 7 [(0, .ref (X.2.2 0)), (1, .int p1), (2, .int p2)] := hl
  generalize hQ : MQ below _ args s 0 0 (AX LM X s.heap.size) = Q
  unfold f_X11_lays at hf
  refine lv_bipush (v := 12) hx hb dX11_lays_0 (by decide) ?_
  refine lv_aload_n hx hb dX11_lays_2 rfl (lv_at hl 0 rfl) ?_
  refine gt_X11_65 B hw dX11_lays_3 ?_
  refine lv_iload_n hx hb dX11_lays_6 rfl (lv_at hl 1 rfl) ?_
  obtain ⟨g_1, hf⟩ := grd_e hf
  refine m_iald B hw (i := 19) rfl g_1 dX11_lays_7 ?_
  refine lv_imul hx hb dX11_lays_8 ?_
  refine lv_iload_n hx hb dX11_lays_9 rfl (lv_at hl 2 rfl) ?_
  refine lv_iadd hx hb dX11_lays_10 ?_
  refine r_topn hf (fun x3_2 hf => ?_)
  refine lv_istore_n (lv' := [(3, .int x3_2), (0, .ref (X.2.2 0)), (1, .int p1), (2, .int p2)]) hx hb dX11_lays_11 rfl hl (by decide) rfl (fun ls hl => ?_)
  refine lv_aload_n hx hb dX11_lays_12 rfl (lv_at hl 1 rfl) ?_
  refine gt_X11_141 B hw dX11_lays_13 ?_
  refine lv_iload_n hx hb dX11_lays_16 rfl (lv_at hl 2 rfl) ?_
  refine m_iald B hw (i := 43) rfl g_1 dX11_lays_17 ?_
  refine r_topn hf (fun x4_3 hf => ?_)
  refine lv_istore (lv' := [(4, .int x4_3), (3, .int x3_2), (0, .ref (X.2.2 0)), (1, .int p1), (2, .int p2)]) hx hb dX11_lays_18 hl (by decide) rfl (fun ls hl => ?_)
  refine jn_e hf (fun kk => ∀ (x4_5 : Int32) (M_6 : Mem) (H : Heap) (locs : List Loc) (ls : Array Slot), HW LM X M_6 s H locs → lv_has ls 7 [(0, .ref (X.2.2 0)), (1, .int p1), (3, .int x3_2), (4, .int x4_5)] → kk x4_5 M_6 = some rs → W p l e rm_X11_lays s m args below meth c H locs 0 0 Q (F0 m 120 ls [])) ?_ (fun k120_4 J120_4 hf => ?_)
  · intro x4_5 M_6 H locs ls hw hl hf
    refine lv_aload_n hx hb dX11_lays_120 rfl (lv_at hl 0 rfl) ?_
    refine gt_X11_144 B hw dX11_lays_121 ?_
    refine lv_bipush (v := 12) hx hb dX11_lays_124 (by decide) ?_
    refine lv_iload_n hx hb dX11_lays_126 rfl (lv_at hl 1 rfl) ?_
    refine lv_imul hx hb dX11_lays_127 ?_
    refine lv_iload hx hb dX11_lays_128 (lv_at hl 3 rfl) ?_
    refine lv_iadd hx hb dX11_lays_130 ?_
    refine lv_aload_n hx hb dX11_lays_131 rfl (lv_at hl 0 rfl) ?_
    refine gt_X11_13 B hw dX11_lays_132 ?_
    refine lv_iload_n hx hb dX11_lays_135 rfl (lv_at hl 2 rfl) ?_
    obtain ⟨g_7, hf⟩ := grd_e hf
    refine m_iald B hw (i := 2) rfl g_7 dX11_lays_136 ?_
    obtain ⟨g_8, hf⟩ := grd_e hf
    refine m_iast B hw (i := 44) rfl g_8 dX11_lays_137 hf (fun M_9 H locs hw hf => ?_)
    refine lv_iconst (v := 0) hx hb dX11_lays_138 (by decide) ?_
    refine lv_istore (lv' := [(5, .int 0), (0, .ref (X.2.2 0)), (1, .int p1), (3, .int x3_2), (4, .int x4_5)]) hx hb dX11_lays_139 hl (by decide) rfl (fun ls hl => ?_)
    refine jn_e hf (fun kk => ∀ (M_11 : Mem) (H : Heap) (locs : List Loc) (ls : Array Slot), HW LM X M_11 s H locs → lv_has ls 7 [(0, .ref (X.2.2 0)), (1, .int p1)] → kk M_11 = some rs → W p l e rm_X11_lays s m args below meth c H locs 0 0 Q (F0 m 181 ls [])) ?_ (fun k181_10 J181_10 hf => ?_)
    · intro M_11 H locs ls hw hl hf
      refine lv_aload_n hx hb dX11_lays_181 rfl (lv_at hl 0 rfl) ?_
      refine gt_X11_141 B hw dX11_lays_182 ?_
      refine lv_iload_n hx hb dX11_lays_185 rfl (lv_at hl 1 rfl) ?_
      refine lv_dup2_11 hx hb dX11_lays_186 rfl rfl ?_
      refine m_iald B hw (i := 43) rfl g_1 dX11_lays_187 ?_
      refine lv_iconst (v := 1) hx hb dX11_lays_188 (by decide) ?_
      refine lv_iadd hx hb dX11_lays_189 ?_
      refine m_iast B hw (i := 43) rfl g_1 dX11_lays_190 hf (fun M_12 H locs hw hf => ?_)
      cases hf
      subst hQ
      exact q_vret B hr hlk hw rfl dX11_lays_191
    have hL_141 : ∀ (n_141 : Nat) (x5_13 : Int32) (M_14 : Mem) (H : Heap) (locs : List Loc) (ls : Array Slot), HW LM X M_14 s H locs → lv_has ls 7 [(0, .ref (X.2.2 0)), (1, .int p1), (3, .int x3_2), (4, .int x4_5), (5, .int x5_13)] → f_X11_lays_L141 fu p1 x3_2 x4_5 k181_10 n_141 x5_13 M_14 = some rs → W p l e rm_X11_lays s m args below meth c H locs 0 0 Q (F0 m 141 ls []) := by
      intro n_141
      induction n_141 with
      | zero => intro x5_13 M_14 H locs ls hw hl hf; exact no_none hf
      | succ n_141 ih_141 =>
        intro x5_13 M_14 H locs ls hw hl hf
        rw [f_X11_lays_L141] at hf
        refine lv_iload hx hb dX11_lays_141 (lv_at hl 4 rfl) ?_
        refine lv_iconst (v := 4) hx hb dX11_lays_143 (by decide) ?_
        refine lv_icmp_ge (tgt := 181) hx hb dX11_lays_144 (by decide) (fun c_15 => ?_) (fun c_15 => ?_)
        · have hf := it_e hf c_15
          exact J181_10 M_14 _ _ _ hw (lv_sub hl [0, 1] rfl) hf
        · have hf := ie_e hf c_15
          refine lv_aload_n hx hb dX11_lays_147 rfl (lv_at hl 0 rfl) ?_
          refine gt_X11_147 B hw dX11_lays_148 ?_
          refine lv_iconst (v := 4) hx hb dX11_lays_151 (by decide) ?_
          refine lv_bipush (v := 12) hx hb dX11_lays_152 (by decide) ?_
          refine lv_iload_n hx hb dX11_lays_154 rfl (lv_at hl 1 rfl) ?_
          refine lv_imul hx hb dX11_lays_155 ?_
          refine lv_iload hx hb dX11_lays_156 (lv_at hl 3 rfl) ?_
          refine lv_iadd hx hb dX11_lays_158 ?_
          refine lv_imul hx hb dX11_lays_159 ?_
          refine lv_iload hx hb dX11_lays_160 (lv_at hl 4 rfl) ?_
          refine lv_iadd hx hb dX11_lays_162 ?_
          refine lv_aload_n hx hb dX11_lays_163 rfl (lv_at hl 0 rfl) ?_
          refine gt_X11_16 B hw dX11_lays_164 ?_
          refine lv_iconst (v := 4) hx hb dX11_lays_167 (by decide) ?_
          refine lv_iload_n hx hb dX11_lays_168 rfl (lv_at hl 2 rfl) ?_
          refine lv_imul hx hb dX11_lays_169 ?_
          refine lv_iload hx hb dX11_lays_170 (lv_at hl 4 rfl) ?_
          refine lv_iadd hx hb dX11_lays_172 ?_
          obtain ⟨g_16, hf⟩ := grd_e hf
          refine m_iald B hw (i := 3) rfl g_16 dX11_lays_173 ?_
          obtain ⟨g_17, hf⟩ := grd_e hf
          refine m_iast B hw (i := 45) rfl g_17 dX11_lays_174 hf (fun M_18 H locs hw hf => ?_)
          refine r_iinc (v := (x5_13 + 1)) hx hb dX11_lays_175 hl (k := 4) rfl rfl (by decide) hf (fun x5_19 ls hl hf => ?_)
          have hl : lv_has ls 7 [(5, .int x5_19), (0, .ref (X.2.2 0)), (1, .int p1), (3, .int x3_2), (4, .int x4_5)] := hl
          refine lv_goto (tgt := 141) hx hb dX11_lays_178 (by decide) ?_
          exact ih_141 x5_19 M_18 _ _ _ hw (lv_sub hl [1, 2, 3, 4, 0] rfl) hf
    exact hL_141 fu 0 M_9 _ _ _ hw (lv_sub hl [1, 2, 3, 4, 0] rfl) hf
  have hL_20 : ∀ (n_20 : Nat) (x4_20 : Int32) (M_21 : Mem) (H : Heap) (locs : List Loc) (ls : Array Slot), HW LM X M_21 s H locs → lv_has ls 7 [(0, .ref (X.2.2 0)), (1, .int p1), (3, .int x3_2), (4, .int x4_20)] → f_X11_lays_L20 fu p1 x3_2 k120_4 n_20 x4_20 M_21 = some rs → W p l e rm_X11_lays s m args below meth c H locs 0 0 Q (F0 m 20 ls []) := by
    intro n_20
    induction n_20 with
    | zero => intro x4_20 M_21 H locs ls hw hl hf; exact no_none hf
    | succ n_20 ih_20 =>
      intro x4_20 M_21 H locs ls hw hl hf
      rw [f_X11_lays_L20] at hf
      refine lv_iload hx hb dX11_lays_20 (lv_at hl 3 rfl) ?_
      refine lv_if_le (tgt := 120) hx hb dX11_lays_22 (by decide) (fun c_22 => ?_) (fun c_22 => ?_)
      · have hf := it_e hf c_22
        exact J120_4 x4_20 M_21 _ _ _ hw (lv_sub hl [0, 1, 2, 3] rfl) hf
      · have hf := ie_e hf c_22
        refine lv_aload_n hx hb dX11_lays_25 rfl (lv_at hl 0 rfl) ?_
        refine gt_X11_144 B hw dX11_lays_26 ?_
        refine lv_bipush (v := 12) hx hb dX11_lays_29 (by decide) ?_
        refine lv_iload_n hx hb dX11_lays_31 rfl (lv_at hl 1 rfl) ?_
        refine lv_imul hx hb dX11_lays_32 ?_
        refine lv_iload hx hb dX11_lays_33 (lv_at hl 3 rfl) ?_
        refine lv_iadd hx hb dX11_lays_35 ?_
        refine lv_iconst (v := 1) hx hb dX11_lays_36 (by decide) ?_
        refine lv_isub hx hb dX11_lays_37 ?_
        obtain ⟨g_23, hf⟩ := grd_e hf
        refine m_iald B hw (i := 44) rfl g_23 dX11_lays_38 ?_
        refine lv_aload_n hx hb dX11_lays_39 rfl (lv_at hl 0 rfl) ?_
        refine gt_X11_13 B hw dX11_lays_40 ?_
        refine lv_iload_n hx hb dX11_lays_43 rfl (lv_at hl 2 rfl) ?_
        obtain ⟨g_24, hf⟩ := grd_e hf
        refine m_iald B hw (i := 2) rfl g_24 dX11_lays_44 ?_
        refine lv_icmp_le (tgt := 120) hx hb dX11_lays_45 (by decide) (fun c_25 => ?_) (fun c_25 => ?_)
        · have hf := it_e hf c_25
          exact J120_4 x4_20 M_21 _ _ _ hw (lv_sub hl [0, 1, 2, 3] rfl) hf
        · have hf := ie_e hf c_25
          refine lv_bipush (v := 12) hx hb dX11_lays_48 (by decide) ?_
          refine lv_iload_n hx hb dX11_lays_50 rfl (lv_at hl 1 rfl) ?_
          refine lv_imul hx hb dX11_lays_51 ?_
          refine lv_iload hx hb dX11_lays_52 (lv_at hl 3 rfl) ?_
          refine lv_iadd hx hb dX11_lays_54 ?_
          refine r_topn hf (fun x5_26 hf => ?_)
          refine lv_istore (lv' := [(5, .int x5_26), (0, .ref (X.2.2 0)), (1, .int p1), (3, .int x3_2), (4, .int x4_20)]) hx hb dX11_lays_55 hl (by decide) rfl (fun ls hl => ?_)
          refine lv_aload_n hx hb dX11_lays_57 rfl (lv_at hl 1 rfl) ?_
          refine gt_X11_144 B hw dX11_lays_58 ?_
          refine lv_iload hx hb dX11_lays_61 (lv_at hl 0 rfl) ?_
          refine lv_aload_n hx hb dX11_lays_63 rfl (lv_at hl 1 rfl) ?_
          refine gt_X11_144 B hw dX11_lays_64 ?_
          refine lv_iload hx hb dX11_lays_67 (lv_at hl 0 rfl) ?_
          refine lv_iconst (v := 1) hx hb dX11_lays_69 (by decide) ?_
          refine lv_isub hx hb dX11_lays_70 ?_
          obtain ⟨g_27, hf⟩ := grd_e hf
          refine m_iald B hw (i := 44) rfl g_27 dX11_lays_71 ?_
          obtain ⟨g_28, hf⟩ := grd_e hf
          refine m_iast B hw (i := 44) rfl g_28 dX11_lays_72 hf (fun M_29 H locs hw hf => ?_)
          refine lv_iconst (v := 0) hx hb dX11_lays_73 (by decide) ?_
          refine lv_istore (lv' := [(6, .int 0), (5, .int x5_26), (0, .ref (X.2.2 0)), (1, .int p1), (3, .int x3_2), (4, .int x4_20)]) hx hb dX11_lays_74 hl (by decide) rfl (fun ls hl => ?_)
          refine jn_e hf (fun kk => ∀ (M_31 : Mem) (H : Heap) (locs : List Loc) (ls : Array Slot), HW LM X M_31 s H locs → lv_has ls 7 [(0, .ref (X.2.2 0)), (1, .int p1), (3, .int x3_2), (4, .int x4_20)] → kk M_31 = some rs → W p l e rm_X11_lays s m args below meth c H locs 0 0 Q (F0 m 114 ls [])) ?_ (fun k114_30 J114_30 hf => ?_)
          · intro M_31 H locs ls hw hl hf
            refine r_iinc (v := (x4_20 + (-1))) hx hb dX11_lays_114 hl (k := 3) rfl rfl (by decide) hf (fun x4_32 ls hl hf => ?_)
            have hl : lv_has ls 7 [(4, .int x4_32), (0, .ref (X.2.2 0)), (1, .int p1), (3, .int x3_2)] := hl
            refine lv_goto (tgt := 20) hx hb dX11_lays_117 (by decide) ?_
            exact ih_20 x4_32 M_31 _ _ _ hw (lv_sub hl [1, 2, 3, 0] rfl) hf
          have hL_76 : ∀ (n_76 : Nat) (x6_33 : Int32) (M_34 : Mem) (H : Heap) (locs : List Loc) (ls : Array Slot), HW LM X M_34 s H locs → lv_has ls 7 [(0, .ref (X.2.2 0)), (1, .int p1), (3, .int x3_2), (4, .int x4_20), (5, .int x5_26), (6, .int x6_33)] → f_X11_lays_L76 fu x5_26 k114_30 n_76 x6_33 M_34 = some rs → W p l e rm_X11_lays s m args below meth c H locs 0 0 Q (F0 m 76 ls []) := by
            intro n_76
            induction n_76 with
            | zero => intro x6_33 M_34 H locs ls hw hl hf; exact no_none hf
            | succ n_76 ih_76 =>
              intro x6_33 M_34 H locs ls hw hl hf
              rw [f_X11_lays_L76] at hf
              refine lv_iload hx hb dX11_lays_76 (lv_at hl 5 rfl) ?_
              refine lv_iconst (v := 4) hx hb dX11_lays_78 (by decide) ?_
              refine lv_icmp_ge (tgt := 114) hx hb dX11_lays_79 (by decide) (fun c_35 => ?_) (fun c_35 => ?_)
              · have hf := it_e hf c_35
                exact J114_30 M_34 _ _ _ hw (lv_sub hl [0, 1, 2, 3] rfl) hf
              · have hf := ie_e hf c_35
                refine lv_aload_n hx hb dX11_lays_82 rfl (lv_at hl 0 rfl) ?_
                refine gt_X11_147 B hw dX11_lays_83 ?_
                refine lv_iconst (v := 4) hx hb dX11_lays_86 (by decide) ?_
                refine lv_iload hx hb dX11_lays_87 (lv_at hl 4 rfl) ?_
                refine lv_imul hx hb dX11_lays_89 ?_
                refine lv_iload hx hb dX11_lays_90 (lv_at hl 5 rfl) ?_
                refine lv_iadd hx hb dX11_lays_92 ?_
                refine lv_aload_n hx hb dX11_lays_93 rfl (lv_at hl 0 rfl) ?_
                refine gt_X11_147 B hw dX11_lays_94 ?_
                refine lv_iconst (v := 4) hx hb dX11_lays_97 (by decide) ?_
                refine lv_iload hx hb dX11_lays_98 (lv_at hl 4 rfl) ?_
                refine lv_iconst (v := 1) hx hb dX11_lays_100 (by decide) ?_
                refine lv_isub hx hb dX11_lays_101 ?_
                refine lv_imul hx hb dX11_lays_102 ?_
                refine lv_iload hx hb dX11_lays_103 (lv_at hl 5 rfl) ?_
                refine lv_iadd hx hb dX11_lays_105 ?_
                obtain ⟨g_36, hf⟩ := grd_e hf
                refine m_iald B hw (i := 45) rfl g_36 dX11_lays_106 ?_
                obtain ⟨g_37, hf⟩ := grd_e hf
                refine m_iast B hw (i := 45) rfl g_37 dX11_lays_107 hf (fun M_38 H locs hw hf => ?_)
                refine r_iinc (v := (x6_33 + 1)) hx hb dX11_lays_108 hl (k := 5) rfl rfl (by decide) hf (fun x6_39 ls hl hf => ?_)
                have hl : lv_has ls 7 [(6, .int x6_39), (0, .ref (X.2.2 0)), (1, .int p1), (3, .int x3_2), (4, .int x4_20), (5, .int x5_26)] := hl
                refine lv_goto (tgt := 76) hx hb dX11_lays_111 (by decide) ?_
                exact ih_76 x6_39 M_38 _ _ _ hw (lv_sub hl [1, 2, 3, 4, 5, 0] rfl) hf
          exact hL_76 fu 0 M_29 _ _ _ hw (lv_sub hl [2, 3, 4, 5, 1, 0] rfl) hf
  exact hL_20 fu x4_3 M _ _ _ hw (lv_sub hl [2, 3, 1, 0] rfl) hf
abbrev rm_X11_comes : Room := { frames := 4, cells := 0, slots := 0, locals := 89 }
set_option maxRecDepth 100000 in
set_option maxHeartbeats 4000000 in
theorem c_X11_comes (l : Launch) (X : XT) (fu : Nat) (p1 : Int32) (p2 : Int32) (p3 : Int32) (p4 : Int32) (M : Mem)  (rs : Mem) (hf : f_X11_comes fu p1 p2 p3 p4 M = some rs) (sz : Nat) : Met l yX11_comes (wbig yX11_comes cX11_comes 8 none) rm_X11_comes (va_Pc [.ref (X.2.2 0), .int p1, .int p2, .int p3, .int p4] (PW LM X M sz)) (QV LM X rs sz) 0 0 (AX LM X sz) := by
  refine met_go (L := LM) (M := M) (by decide +kernel) (Nat.le_of_ble_eq_true rfl) ?_
  intro p e s m args below meth c hsz B hr hlk hw ls hl
  subst hsz
  have hx := B.hx
  have hb := B.hb
  have hl : lv_has ls 8 [(0, .ref (X.2.2 0)), (1, .int p1), (2, .int p2), (3, .int p3), (4, .int p4)] := hl
  generalize hQ : MQ below _ args s 0 0 (AX LM X s.heap.size) = Q
  unfold f_X11_comes at hf
  refine lv_aload_n hx hb dX11_comes_0 rfl (lv_at hl 0 rfl) ?_
  refine gt_X11_65 B hw dX11_comes_1 ?_
  refine lv_iload_n hx hb dX11_comes_4 rfl (lv_at hl 1 rfl) ?_
  obtain ⟨g_1, hf⟩ := grd_e hf
  refine m_iald B hw (i := 19) rfl g_1 dX11_comes_5 ?_
  refine r_topn hf (fun x5_2 hf => ?_)
  refine lv_istore (lv' := [(5, .int x5_2), (0, .ref (X.2.2 0)), (1, .int p1), (2, .int p2), (3, .int p3), (4, .int p4)]) hx hb dX11_comes_6 hl (by decide) rfl (fun ls hl => ?_)
  refine lv_iconst (v := 0) hx hb dX11_comes_8 (by decide) ?_
  refine lv_istore (lv' := [(6, .int 0), (5, .int x5_2), (0, .ref (X.2.2 0)), (1, .int p1), (2, .int p2), (3, .int p3), (4, .int p4)]) hx hb dX11_comes_9 hl (by decide) rfl (fun ls hl => ?_)
  refine lv_aload_n hx hb dX11_comes_11 rfl (lv_at hl 2 rfl) ?_
  refine lv_iconst (v := 0) hx hb dX11_comes_12 (by decide) ?_
  refine pt_X11_352 B hw rfl dX11_comes_13 hf (fun M_3 H locs hw hf => ?_)
  refine lv_iconst (v := 0) hx hb dX11_comes_16 (by decide) ?_
  refine lv_istore (lv' := [(7, .int 0), (6, .int 0), (5, .int x5_2), (0, .ref (X.2.2 0)), (1, .int p1), (2, .int p2), (3, .int p3), (4, .int p4)]) hx hb dX11_comes_17 hl (by decide) rfl (fun ls hl => ?_)
  refine jn_e hf (fun kk => ∀ (x6_5 : Int32) (M_6 : Mem) (H : Heap) (locs : List Loc) (ls : Array Slot), HW LM X M_6 s H locs → lv_has ls 8 [(0, .ref (X.2.2 0)), (5, .int x5_2), (6, .int x6_5)] → kk x6_5 M_6 = some rs → W p l e rm_X11_comes s m args below meth c H locs 0 0 Q (F0 m 112 ls [])) ?_ (fun k112_4 J112_4 hf => ?_)
  · intro x6_5 M_6 H locs ls hw hl hf
    refine lv_aload_n hx hb dX11_comes_112 rfl (lv_at hl 0 rfl) ?_
    refine lv_dup hx hb dX11_comes_113 rfl ?_
    refine gt_X11_364 B hw dX11_comes_114 ?_
    refine lv_iload hx hb dX11_comes_117 (lv_at hl 2 rfl) ?_
    refine lv_iadd hx hb dX11_comes_119 ?_
    refine pt_X11_364 B hw dX11_comes_120 hf (fun M_7 H locs hw hf => ?_)
    refine lv_aload_n hx hb dX11_comes_123 rfl (lv_at hl 0 rfl) ?_
    refine lv_iload hx hb dX11_comes_124 (lv_at hl 2 rfl) ?_
    refine lv_aload_n hx hb dX11_comes_126 rfl (lv_at hl 0 rfl) ?_
    refine gt_X11_56 B hw dX11_comes_127 ?_
    refine lv_iload hx hb dX11_comes_130 (lv_at hl 1 rfl) ?_
    refine q_callSi (M' := M_7) (As := [.int x5_2]) (rest := [.ref (X.2.2 16), .int x6_5, .ref (X.2.2 0)]) B hw (c_X11_storeOf l X x5_2 _ rfl M_7 _) cs_X11_220 rfl hl.1 rfl rfl ⟨Nat.le_of_ble_eq_true rfl, Nat.le_of_ble_eq_true rfl⟩ (Nat.le_of_ble_eq_true rfl) ⟨Nat.le_of_ble_eq_true rfl, Nat.le_of_ble_eq_true rfl⟩ dX11_comes_132 rfl (fun H locs hw => ?_)
    obtain ⟨g_8, hf⟩ := grd_e hf
    refine m_iald B hw (i := 16) rfl g_8 dX11_comes_135 ?_
    refine lv_imul hx hb dX11_comes_136 ?_
    obtain ⟨M_10, h_9, hf⟩ := bd_e hf
    refine q_callVv (M' := M_10) (i := 0) (As := [.int (x6_5 * (M_7 16 (f_X11_storeOf x5_2).toNatClampNeg))]) (rest := []) B hw (c_X11_pays l X fu (x6_5 * (M_7 16 (f_X11_storeOf x5_2).toNatClampNeg)) M_7 M_10 h_9 _) cv_X11_339 (rc_11 B hw) rfl hl.1 rfl rfl ⟨Nat.le_of_ble_eq_true rfl, Nat.le_of_ble_eq_true rfl⟩ (Nat.le_of_ble_eq_true rfl) ⟨Nat.le_of_ble_eq_true rfl, Nat.le_of_ble_eq_true rfl⟩ dX11_comes_137 rfl (fun H locs hw => ?_)
    cases hf
    subst hQ
    exact q_vret B hr hlk hw rfl dX11_comes_140
  have hL_19 : ∀ (n_19 : Nat) (x6_11 : Int32) (x7_12 : Int32) (M_13 : Mem) (H : Heap) (locs : List Loc) (ls : Array Slot), HW LM X M_13 s H locs → lv_has ls 8 [(0, .ref (X.2.2 0)), (1, .int p1), (2, .int p2), (3, .int p3), (4, .int p4), (5, .int x5_2), (6, .int x6_11), (7, .int x7_12)] → f_X11_comes_L19 fu p1 p2 p3 p4 x5_2 k112_4 n_19 x6_11 x7_12 M_13 = some rs → W p l e rm_X11_comes s m args below meth c H locs 0 0 Q (F0 m 19 ls []) := by
    intro n_19
    induction n_19 with
    | zero => intro x6_11 x7_12 M_13 H locs ls hw hl hf; exact no_none hf
    | succ n_19 ih_19 =>
      intro x6_11 x7_12 M_13 H locs ls hw hl hf
      rw [f_X11_comes_L19] at hf
      refine lv_iload hx hb dX11_comes_19 (lv_at hl 7 rfl) ?_
      refine lv_aload_n hx hb dX11_comes_21 rfl (lv_at hl 0 rfl) ?_
      refine gt_X11_7 B hw dX11_comes_22 ?_
      refine lv_iload hx hb dX11_comes_25 (lv_at hl 5 rfl) ?_
      obtain ⟨g_14, hf⟩ := grd_e hf
      refine m_iald B hw (i := 1) rfl g_14 dX11_comes_27 ?_
      refine lv_icmp_ge (tgt := 112) hx hb dX11_comes_28 (by decide) (fun c_15 => ?_) (fun c_15 => ?_)
      · have hf := it_e hf c_15
        exact J112_4 x6_11 M_13 _ _ _ hw (lv_sub hl [0, 5, 6] rfl) hf
      · have hf := ie_e hf c_15
        refine lv_aload_n hx hb dX11_comes_31 rfl (lv_at hl 0 rfl) ?_
        refine lv_iload_n hx hb dX11_comes_32 rfl (lv_at hl 1 rfl) ?_
        refine lv_iload hx hb dX11_comes_33 (lv_at hl 7 rfl) ?_
        obtain ⟨r_17, h_16, hf⟩ := bd_e hf
        refine q_callVi (M' := M_13) (i := 0) (As := [.int p1, .int x7_12]) (rest := []) B hw (c_X11_holdSent l X fu p1 x7_12 M_13 r_17 h_16 _) cv_X11_355 (rc_11 B hw) rfl hl.1 rfl rfl ⟨Nat.le_of_ble_eq_true rfl, Nat.le_of_ble_eq_true rfl⟩ (Nat.le_of_ble_eq_true rfl) ⟨Nat.le_of_ble_eq_true rfl, Nat.le_of_ble_eq_true rfl⟩ dX11_comes_35 rfl (fun H locs hw => ?_)
        refine lv_if_eq (tgt := 106) hx hb dX11_comes_38 (by decide) (fun c_18 => ?_) (fun c_18 => ?_)
        · have hf := it_e hf c_18
          refine r_iinc (v := (x7_12 + 1)) hx hb dX11_comes_106 hl (k := 7) rfl rfl (by decide) hf (fun x7_19 ls hl hf => ?_)
          have hl : lv_has ls 8 [(7, .int x7_19), (0, .ref (X.2.2 0)), (1, .int p1), (2, .int p2), (3, .int p3), (4, .int p4), (5, .int x5_2), (6, .int x6_11)] := hl
          refine lv_goto (tgt := 19) hx hb dX11_comes_109 (by decide) ?_
          exact ih_19 x6_11 x7_19 M_13 _ _ _ hw (lv_sub hl [1, 2, 3, 4, 5, 6, 7, 0] rfl) hf
        · have hf := ie_e hf c_18
          refine lv_iload_n hx hb dX11_comes_41 rfl (lv_at hl 2 rfl) ?_
          refine lv_iconst (v := (-1)) hx hb dX11_comes_42 (by decide) ?_
          refine jn_e hf (fun kk => ∀ (_ : Unit) (H : Heap) (locs : List Loc) (ls : Array Slot), HW LM X M_13 s H locs → lv_has ls 8 [(0, .ref (X.2.2 0)), (1, .int p1), (2, .int p2), (3, .int p3), (4, .int p4), (5, .int x5_2), (6, .int x6_11), (7, .int x7_12)] → kk () = some rs → W p l e rm_X11_comes s m args below meth c H locs 0 0 Q (F0 m 73 ls [])) ?_ (fun k73_20 J73_20 hf => ?_)
          · intro _ H locs ls hw hl hf
            refine lv_iload hx hb dX11_comes_73 (lv_at hl 6 rfl) ?_
            refine lv_aload_n hx hb dX11_comes_75 rfl (lv_at hl 0 rfl) ?_
            refine gt_X11_34 B hw dX11_comes_76 ?_
            refine lv_iload hx hb dX11_comes_79 (lv_at hl 5 rfl) ?_
            refine q_callSi (M' := M_13) (As := [.int x5_2]) (rest := [.ref (X.2.2 9), .int x6_11]) B hw (c_X11_storeOf l X x5_2 _ rfl M_13 _) cs_X11_220 rfl hl.1 rfl rfl ⟨Nat.le_of_ble_eq_true rfl, Nat.le_of_ble_eq_true rfl⟩ (Nat.le_of_ble_eq_true rfl) ⟨Nat.le_of_ble_eq_true rfl, Nat.le_of_ble_eq_true rfl⟩ dX11_comes_81 rfl (fun H locs hw => ?_)
            obtain ⟨g_21, hf⟩ := grd_e hf
            refine m_iald B hw (i := 9) rfl g_21 dX11_comes_84 ?_
            refine lv_icmp_ne (tgt := 96) hx hb dX11_comes_85 (by decide) (fun c_22 => ?_) (fun c_22 => ?_)
            · have hf := ie_e hf c_22
              refine lv_aload_n hx hb dX11_comes_96 rfl (lv_at hl 0 rfl) ?_
              refine lv_iload_n hx hb dX11_comes_97 rfl (lv_at hl 1 rfl) ?_
              refine lv_iload hx hb dX11_comes_98 (lv_at hl 7 rfl) ?_
              obtain ⟨M_24, h_23, hf⟩ := bd_e hf
              refine q_callVv (M' := M_24) (i := 0) (As := [.int p1, .int x7_12]) (rest := []) B hw (c_X11_lays l X fu p1 x7_12 M_13 M_24 h_23 _) cv_X11_361 (rc_11 B hw) rfl hl.1 rfl rfl ⟨Nat.le_of_ble_eq_true rfl, Nat.le_of_ble_eq_true rfl⟩ (Nat.le_of_ble_eq_true rfl) ⟨Nat.le_of_ble_eq_true rfl, Nat.le_of_ble_eq_true rfl⟩ dX11_comes_100 rfl (fun H locs hw => ?_)
              refine r_iinc (v := (x6_11 + 1)) hx hb dX11_comes_103 hl (k := 6) rfl rfl (by decide) hf (fun x6_25 ls hl hf => ?_)
              have hl : lv_has ls 8 [(6, .int x6_25), (0, .ref (X.2.2 0)), (1, .int p1), (2, .int p2), (3, .int p3), (4, .int p4), (5, .int x5_2), (7, .int x7_12)] := hl
              refine r_iinc (v := (x7_12 + 1)) hx hb dX11_comes_106 hl (k := 7) rfl rfl (by decide) hf (fun x7_26 ls hl hf => ?_)
              have hl : lv_has ls 8 [(7, .int x7_26), (6, .int x6_25), (0, .ref (X.2.2 0)), (1, .int p1), (2, .int p2), (3, .int p3), (4, .int p4), (5, .int x5_2)] := hl
              refine lv_goto (tgt := 19) hx hb dX11_comes_109 (by decide) ?_
              exact ih_19 x6_25 x7_26 M_24 _ _ _ hw (lv_sub hl [2, 3, 4, 5, 6, 7, 1, 0] rfl) hf
            · have hf := it_e hf c_22
              refine lv_aload_n hx hb dX11_comes_88 rfl (lv_at hl 0 rfl) ?_
              refine lv_iconst (v := 1) hx hb dX11_comes_89 (by decide) ?_
              refine pt_X11_352 B hw rfl dX11_comes_90 hf (fun M_27 H locs hw hf => ?_)
              refine lv_goto (tgt := 106) hx hb dX11_comes_93 (by decide) ?_
              refine r_iinc (v := (x7_12 + 1)) hx hb dX11_comes_106 hl (k := 7) rfl rfl (by decide) hf (fun x7_28 ls hl hf => ?_)
              have hl : lv_has ls 8 [(7, .int x7_28), (0, .ref (X.2.2 0)), (1, .int p1), (2, .int p2), (3, .int p3), (4, .int p4), (5, .int x5_2), (6, .int x6_11)] := hl
              refine lv_goto (tgt := 19) hx hb dX11_comes_109 (by decide) ?_
              exact ih_19 x6_11 x7_28 M_27 _ _ _ hw (lv_sub hl [1, 2, 3, 4, 5, 6, 7, 0] rfl) hf
          refine lv_icmp_eq (tgt := 73) hx hb dX11_comes_43 (by decide) (fun c_29 => ?_) (fun c_29 => ?_)
          · have hf := it_e hf c_29
            exact J73_20 () _ _ _ hw (lv_sub hl [0, 1, 2, 3, 4, 5, 6, 7] rfl) hf
          · have hf := ie_e hf c_29
            refine lv_aload_n hx hb dX11_comes_46 rfl (lv_at hl 0 rfl) ?_
            refine lv_aload_n hx hb dX11_comes_47 rfl (lv_at hl 0 rfl) ?_
            refine gt_X11_16 B hw dX11_comes_48 ?_
            refine lv_iconst (v := 4) hx hb dX11_comes_51 (by decide) ?_
            refine lv_bipush (v := 12) hx hb dX11_comes_52 (by decide) ?_
            refine lv_iload hx hb dX11_comes_54 (lv_at hl 5 rfl) ?_
            refine lv_imul hx hb dX11_comes_56 ?_
            refine lv_iload hx hb dX11_comes_57 (lv_at hl 7 rfl) ?_
            refine lv_iadd hx hb dX11_comes_59 ?_
            refine lv_imul hx hb dX11_comes_60 ?_
            refine lv_iload_n hx hb dX11_comes_61 rfl (lv_at hl 2 rfl) ?_
            refine lv_iadd hx hb dX11_comes_62 ?_
            obtain ⟨g_30, hf⟩ := grd_e hf
            refine m_iald B hw (i := 3) rfl g_30 dX11_comes_63 ?_
            refine lv_iload_n hx hb dX11_comes_64 rfl (lv_at hl 3 rfl) ?_
            refine lv_iload hx hb dX11_comes_65 (lv_at hl 4 rfl) ?_
            obtain ⟨r_32, h_31, hf⟩ := bd_e hf
            refine q_callVi (M' := M_13) (i := 0) (As := [.int (M_13 3 ((4 * ((12 * x5_2) + x7_12)) + p2).toNatClampNeg), .int p3, .int p4]) (rest := []) B hw (c_X11_isKey l X fu (M_13 3 ((4 * ((12 * x5_2) + x7_12)) + p2).toNatClampNeg) p3 p4 M_13 r_32 h_31 _) cv_X11_358 (rc_11 B hw) rfl hl.1 rfl rfl ⟨Nat.le_of_ble_eq_true rfl, Nat.le_of_ble_eq_true rfl⟩ (Nat.le_of_ble_eq_true rfl) ⟨Nat.le_of_ble_eq_true rfl, Nat.le_of_ble_eq_true rfl⟩ dX11_comes_67 rfl (fun H locs hw => ?_)
            refine lv_if_eq (tgt := 106) hx hb dX11_comes_70 (by decide) (fun c_33 => ?_) (fun c_33 => ?_)
            · have hf := it_e hf c_33
              refine r_iinc (v := (x7_12 + 1)) hx hb dX11_comes_106 hl (k := 7) rfl rfl (by decide) hf (fun x7_34 ls hl hf => ?_)
              have hl : lv_has ls 8 [(7, .int x7_34), (0, .ref (X.2.2 0)), (1, .int p1), (2, .int p2), (3, .int p3), (4, .int p4), (5, .int x5_2), (6, .int x6_11)] := hl
              refine lv_goto (tgt := 19) hx hb dX11_comes_109 (by decide) ?_
              exact ih_19 x6_11 x7_34 M_13 _ _ _ hw (lv_sub hl [1, 2, 3, 4, 5, 6, 7, 0] rfl) hf
            · have hf := ie_e hf c_33
              exact J73_20 () _ _ _ hw (lv_sub hl [0, 1, 2, 3, 4, 5, 6, 7] rfl) hf
  exact hL_19 fu 0 0 M_3 _ _ _ hw (lv_sub hl [3, 4, 5, 6, 7, 2, 1, 0] rfl) hf
abbrev rm_X11_remembers : Room := { frames := 2, cells := 0, slots := 0, locals := 44 }
set_option maxRecDepth 100000 in
set_option maxHeartbeats 4000000 in
theorem c_X11_remembers (l : Launch) (X : XT) (fu : Nat) (p1 : Int32) (M : Mem)  (rs : Mem) (hf : f_X11_remembers fu p1 M = some rs) (sz : Nat) : Met l yX11_remembers (wbig yX11_remembers cX11_remembers 5 none) rm_X11_remembers (va_Pc [.ref (X.2.2 0), .int p1] (PW LM X M sz)) (QV LM X rs sz) 0 0 (AX LM X sz) := by
  refine met_go (L := LM) (M := M) (by decide +kernel) (Nat.le_of_ble_eq_true rfl) ?_
  intro p e s m args below meth c hsz B hr hlk hw ls hl
  subst hsz
  have hx := B.hx
  have hb := B.hb
  have hl : lv_has ls 5 [(0, .ref (X.2.2 0)), (1, .int p1)] := hl
  generalize hQ : MQ below _ args s 0 0 (AX LM X s.heap.size) = Q
  unfold f_X11_remembers at hf
  refine lv_aload_n hx hb dX11_remembers_0 rfl (lv_at hl 0 rfl) ?_
  refine gt_X11_232 B hw dX11_remembers_1 ?_
  refine lv_bipush (v := 6) hx hb dX11_remembers_4 (by decide) ?_
  refine jn_e hf (fun kk => ∀ (M_2 : Mem) (H : Heap) (locs : List Loc) (ls : Array Slot), HW LM X M_2 s H locs → lv_has ls 5 [(0, .ref (X.2.2 0)), (1, .int p1)] → kk M_2 = some rs → W p l e rm_X11_remembers s m args below meth c H locs 0 0 Q (F0 m 41 ls [])) ?_ (fun k41_1 J41_1 hf => ?_)
  · intro M_2 H locs ls hw hl hf
    refine lv_aload_n hx hb dX11_remembers_41 rfl (lv_at hl 0 rfl) ?_
    refine gt_X11_232 B hw dX11_remembers_42 ?_
    refine r_topn hf (fun x2_3 hf => ?_)
    refine lv_istore_n (lv' := [(2, .int x2_3), (0, .ref (X.2.2 0)), (1, .int p1)]) hx hb dX11_remembers_45 rfl hl (by decide) rfl (fun ls hl => ?_)
    refine lv_aload_n hx hb dX11_remembers_46 rfl (lv_at hl 1 rfl) ?_
    refine lv_dup hx hb dX11_remembers_47 rfl ?_
    refine gt_X11_232 B hw dX11_remembers_48 ?_
    refine lv_iconst (v := 1) hx hb dX11_remembers_51 (by decide) ?_
    refine lv_iadd hx hb dX11_remembers_52 ?_
    refine pt_X11_232 B hw dX11_remembers_53 hf (fun M_4 H locs hw hf => ?_)
    refine lv_aload_n hx hb dX11_remembers_56 rfl (lv_at hl 1 rfl) ?_
    refine gt_X11_102 B hw dX11_remembers_57 ?_
    refine lv_iload_n hx hb dX11_remembers_60 rfl (lv_at hl 0 rfl) ?_
    refine lv_aload_n hx hb dX11_remembers_61 rfl (lv_at hl 1 rfl) ?_
    refine gt_X11_65 B hw dX11_remembers_62 ?_
    refine lv_iload_n hx hb dX11_remembers_65 rfl (lv_at hl 2 rfl) ?_
    obtain ⟨g_5, hf⟩ := grd_e hf
    refine m_iald B hw (i := 19) rfl g_5 dX11_remembers_66 ?_
    obtain ⟨g_6, hf⟩ := grd_e hf
    refine m_iast B hw (i := 30) rfl g_6 dX11_remembers_67 hf (fun M_7 H locs hw hf => ?_)
    refine lv_aload_n hx hb dX11_remembers_68 rfl (lv_at hl 1 rfl) ?_
    refine gt_X11_105 B hw dX11_remembers_69 ?_
    refine lv_iload_n hx hb dX11_remembers_72 rfl (lv_at hl 0 rfl) ?_
    refine lv_aload_n hx hb dX11_remembers_73 rfl (lv_at hl 1 rfl) ?_
    refine gt_X11_235 B hw dX11_remembers_74 ?_
    refine m_iast B hw (i := 31) rfl g_6 dX11_remembers_77 hf (fun M_8 H locs hw hf => ?_)
    refine lv_aload_n hx hb dX11_remembers_78 rfl (lv_at hl 1 rfl) ?_
    refine gt_X11_108 B hw dX11_remembers_79 ?_
    refine lv_iload_n hx hb dX11_remembers_82 rfl (lv_at hl 0 rfl) ?_
    refine lv_aload_n hx hb dX11_remembers_83 rfl (lv_at hl 1 rfl) ?_
    refine gt_X11_22 B hw dX11_remembers_84 ?_
    refine lv_aload_n hx hb dX11_remembers_87 rfl (lv_at hl 1 rfl) ?_
    refine gt_X11_65 B hw dX11_remembers_88 ?_
    refine lv_iload_n hx hb dX11_remembers_91 rfl (lv_at hl 2 rfl) ?_
    refine m_iald B hw (i := 19) rfl g_5 dX11_remembers_92 ?_
    obtain ⟨g_9, hf⟩ := grd_e hf
    refine m_iald B hw (i := 5) rfl g_9 dX11_remembers_93 ?_
    refine m_iast B hw (i := 32) rfl g_6 dX11_remembers_94 hf (fun M_10 H locs hw hf => ?_)
    refine lv_aload_n hx hb dX11_remembers_95 rfl (lv_at hl 1 rfl) ?_
    refine gt_X11_111 B hw dX11_remembers_96 ?_
    refine lv_iload_n hx hb dX11_remembers_99 rfl (lv_at hl 0 rfl) ?_
    refine lv_iconst (v := (-1)) hx hb dX11_remembers_100 (by decide) ?_
    refine m_iast B hw (i := 33) rfl g_6 dX11_remembers_101 hf (fun M_11 H locs hw hf => ?_)
    refine lv_aload_n hx hb dX11_remembers_102 rfl (lv_at hl 1 rfl) ?_
    refine gt_X11_114 B hw dX11_remembers_103 ?_
    refine lv_iload_n hx hb dX11_remembers_106 rfl (lv_at hl 0 rfl) ?_
    refine lv_iconst (v := (-1)) hx hb dX11_remembers_107 (by decide) ?_
    refine m_iast B hw (i := 34) rfl g_6 dX11_remembers_108 hf (fun M_12 H locs hw hf => ?_)
    refine lv_aload_n hx hb dX11_remembers_109 rfl (lv_at hl 1 rfl) ?_
    refine gt_X11_117 B hw dX11_remembers_110 ?_
    refine lv_iload_n hx hb dX11_remembers_113 rfl (lv_at hl 0 rfl) ?_
    refine lv_aload_n hx hb dX11_remembers_114 rfl (lv_at hl 1 rfl) ?_
    refine gt_X11_141 B hw dX11_remembers_115 ?_
    refine lv_iload_n hx hb dX11_remembers_118 rfl (lv_at hl 2 rfl) ?_
    refine m_iald B hw (i := 43) rfl g_5 dX11_remembers_119 ?_
    refine m_iast B hw (i := 35) rfl g_6 dX11_remembers_120 hf (fun M_13 H locs hw hf => ?_)
    refine lv_iconst (v := 0) hx hb dX11_remembers_121 (by decide) ?_
    refine lv_istore_n (lv' := [(3, .int 0), (2, .int x2_3), (0, .ref (X.2.2 0)), (1, .int p1)]) hx hb dX11_remembers_122 rfl hl (by decide) rfl (fun ls hl => ?_)
    refine jn_e hf (fun kk => ∀ (M_15 : Mem) (H : Heap) (locs : List Loc) (ls : Array Slot), HW LM X M_15 s H locs → lv_has ls 5 [(0, .ref (X.2.2 0)), (1, .int p1), (2, .int x2_3)] → kk M_15 = some rs → W p l e rm_X11_remembers s m args below meth c H locs 0 0 Q (F0 m 161 ls [])) ?_ (fun k161_14 J161_14 hf => ?_)
    · intro M_15 H locs ls hw hl hf
      refine lv_iconst (v := 0) hx hb dX11_remembers_161 (by decide) ?_
      refine lv_istore_n (lv' := [(3, .int 0), (0, .ref (X.2.2 0)), (1, .int p1), (2, .int x2_3)]) hx hb dX11_remembers_162 rfl hl (by decide) rfl (fun ls hl => ?_)
      refine jn_e hf (fun kk => ∀ (M_17 : Mem) (H : Heap) (locs : List Loc) (ls : Array Slot), HW LM X M_17 s H locs → lv_has ls 5 [(0, .ref (X.2.2 0)), (1, .int p1), (2, .int x2_3)] → kk M_17 = some rs → W p l e rm_X11_remembers s m args below meth c H locs 0 0 Q (F0 m 203 ls [])) ?_ (fun k203_16 J203_16 hf => ?_)
      · intro M_17 H locs ls hw hl hf
        refine lv_aload_n hx hb dX11_remembers_203 rfl (lv_at hl 0 rfl) ?_
        refine gt_X11_126 B hw dX11_remembers_204 ?_
        refine lv_iload_n hx hb dX11_remembers_207 rfl (lv_at hl 2 rfl) ?_
        refine lv_iconst (v := 0) hx hb dX11_remembers_208 (by decide) ?_
        refine m_iast B hw (i := 38) rfl g_6 dX11_remembers_209 hf (fun M_18 H locs hw hf => ?_)
        refine lv_iconst (v := 0) hx hb dX11_remembers_210 (by decide) ?_
        refine lv_istore_n (lv' := [(3, .int 0), (0, .ref (X.2.2 0)), (1, .int p1), (2, .int x2_3)]) hx hb dX11_remembers_211 rfl hl (by decide) rfl (fun ls hl => ?_)
        have hL_212 : ∀ (n_212 : Nat) (x3_19 : Int32) (M_20 : Mem) (H : Heap) (locs : List Loc) (ls : Array Slot), HW LM X M_20 s H locs → lv_has ls 5 [(0, .ref (X.2.2 0)), (1, .int p1), (2, .int x2_3), (3, .int x3_19)] → f_X11_remembers_L212 fu p1 x2_3 n_212 x3_19 M_20 = some rs → W p l e rm_X11_remembers s m args below meth c H locs 0 0 Q (F0 m 212 ls []) := by
          intro n_212
          induction n_212 with
          | zero => intro x3_19 M_20 H locs ls hw hl hf; exact no_none hf
          | succ n_212 ih_212 =>
            intro x3_19 M_20 H locs ls hw hl hf
            rw [f_X11_remembers_L212] at hf
            refine lv_iload_n hx hb dX11_remembers_212 rfl (lv_at hl 3 rfl) ?_
            refine lv_aload_n hx hb dX11_remembers_213 rfl (lv_at hl 0 rfl) ?_
            refine gt_X11_311 B hw dX11_remembers_214 ?_
            refine lv_icmp_ge (tgt := 296) hx hb dX11_remembers_217 (by decide) (fun c_21 => ?_) (fun c_21 => ?_)
            · have hf := it_e hf c_21
              cases hf
              subst hQ
              exact q_vret B hr hlk hw rfl dX11_remembers_296
            · have hf := ie_e hf c_21
              refine lv_aload_n hx hb dX11_remembers_220 rfl (lv_at hl 0 rfl) ?_
              refine lv_iload_n hx hb dX11_remembers_221 rfl (lv_at hl 3 rfl) ?_
              refine lv_iload_n hx hb dX11_remembers_222 rfl (lv_at hl 1 rfl) ?_
              obtain ⟨r_23, h_22, hf⟩ := bd_e hf
              refine q_callVi (M' := M_20) (i := 0) (As := [.int x3_19, .int p1]) (rest := []) B hw (c_X11_isSent l X fu x3_19 p1 M_20 r_23 h_22 _) cv_X11_324 (rc_11 B hw) rfl hl.1 rfl rfl ⟨Nat.le_of_ble_eq_true rfl, Nat.le_of_ble_eq_true rfl⟩ (Nat.le_of_ble_eq_true rfl) ⟨Nat.le_of_ble_eq_true rfl, Nat.le_of_ble_eq_true rfl⟩ dX11_remembers_223 rfl (fun H locs hw => ?_)
              refine lv_if_eq (tgt := 290) hx hb dX11_remembers_226 (by decide) (fun c_24 => ?_) (fun c_24 => ?_)
              · have hf := it_e hf c_24
                refine r_iinc (v := (x3_19 + 1)) hx hb dX11_remembers_290 hl (k := 3) rfl rfl (by decide) hf (fun x3_25 ls hl hf => ?_)
                have hl : lv_has ls 5 [(3, .int x3_25), (0, .ref (X.2.2 0)), (1, .int p1), (2, .int x2_3)] := hl
                refine lv_goto (tgt := 212) hx hb dX11_remembers_293 (by decide) ?_
                exact ih_212 x3_25 M_20 _ _ _ hw (lv_sub hl [1, 2, 3, 0] rfl) hf
              · have hf := ie_e hf c_24
                refine lv_iconst (v := 4) hx hb dX11_remembers_229 (by decide) ?_
                refine lv_iload_n hx hb dX11_remembers_230 rfl (lv_at hl 2 rfl) ?_
                refine lv_imul hx hb dX11_remembers_231 ?_
                refine lv_aload_n hx hb dX11_remembers_232 rfl (lv_at hl 0 rfl) ?_
                refine gt_X11_126 B hw dX11_remembers_233 ?_
                refine lv_iload_n hx hb dX11_remembers_236 rfl (lv_at hl 2 rfl) ?_
                obtain ⟨g_26, hf⟩ := grd_e hf
                refine m_iald B hw (i := 38) rfl g_26 dX11_remembers_237 ?_
                refine lv_iadd hx hb dX11_remembers_238 ?_
                refine r_topn hf (fun x4_27 hf => ?_)
                refine lv_istore (lv' := [(4, .int x4_27), (0, .ref (X.2.2 0)), (1, .int p1), (2, .int x2_3), (3, .int x3_19)]) hx hb dX11_remembers_239 hl (by decide) rfl (fun ls hl => ?_)
                refine lv_aload_n hx hb dX11_remembers_241 rfl (lv_at hl 1 rfl) ?_
                refine gt_X11_129 B hw dX11_remembers_242 ?_
                refine lv_iload hx hb dX11_remembers_245 (lv_at hl 0 rfl) ?_
                refine lv_aload_n hx hb dX11_remembers_247 rfl (lv_at hl 1 rfl) ?_
                refine gt_X11_83 B hw dX11_remembers_248 ?_
                refine lv_iload_n hx hb dX11_remembers_251 rfl (lv_at hl 4 rfl) ?_
                obtain ⟨g_28, hf⟩ := grd_e hf
                refine m_iald B hw (i := 25) rfl g_28 dX11_remembers_252 ?_
                obtain ⟨g_29, hf⟩ := grd_e hf
                refine m_iast B hw (i := 39) rfl g_29 dX11_remembers_253 hf (fun M_30 H locs hw hf => ?_)
                refine lv_aload_n hx hb dX11_remembers_254 rfl (lv_at hl 1 rfl) ?_
                refine gt_X11_132 B hw dX11_remembers_255 ?_
                refine lv_iload hx hb dX11_remembers_258 (lv_at hl 0 rfl) ?_
                refine lv_aload_n hx hb dX11_remembers_260 rfl (lv_at hl 1 rfl) ?_
                refine gt_X11_86 B hw dX11_remembers_261 ?_
                refine lv_iload_n hx hb dX11_remembers_264 rfl (lv_at hl 4 rfl) ?_
                refine m_iald B hw (i := 26) rfl g_28 dX11_remembers_265 ?_
                refine m_iast B hw (i := 40) rfl g_29 dX11_remembers_266 hf (fun M_31 H locs hw hf => ?_)
                refine lv_aload_n hx hb dX11_remembers_267 rfl (lv_at hl 1 rfl) ?_
                refine gt_X11_135 B hw dX11_remembers_268 ?_
                refine lv_iload hx hb dX11_remembers_271 (lv_at hl 0 rfl) ?_
                refine lv_aload_n hx hb dX11_remembers_273 rfl (lv_at hl 1 rfl) ?_
                refine gt_X11_89 B hw dX11_remembers_274 ?_
                refine lv_iload_n hx hb dX11_remembers_277 rfl (lv_at hl 4 rfl) ?_
                refine m_iald B hw (i := 27) rfl g_28 dX11_remembers_278 ?_
                refine m_iast B hw (i := 41) rfl g_29 dX11_remembers_279 hf (fun M_32 H locs hw hf => ?_)
                refine lv_aload_n hx hb dX11_remembers_280 rfl (lv_at hl 1 rfl) ?_
                refine gt_X11_126 B hw dX11_remembers_281 ?_
                refine lv_iload_n hx hb dX11_remembers_284 rfl (lv_at hl 3 rfl) ?_
                refine lv_dup2_11 hx hb dX11_remembers_285 rfl rfl ?_
                refine m_iald B hw (i := 38) rfl g_26 dX11_remembers_286 ?_
                refine lv_iconst (v := 1) hx hb dX11_remembers_287 (by decide) ?_
                refine lv_iadd hx hb dX11_remembers_288 ?_
                refine m_iast B hw (i := 38) rfl g_26 dX11_remembers_289 hf (fun M_33 H locs hw hf => ?_)
                refine r_iinc (v := (x3_19 + 1)) hx hb dX11_remembers_290 hl (k := 4) rfl rfl (by decide) hf (fun x3_34 ls hl hf => ?_)
                have hl : lv_has ls 5 [(3, .int x3_34), (4, .int x4_27), (0, .ref (X.2.2 0)), (1, .int p1), (2, .int x2_3)] := hl
                refine lv_goto (tgt := 212) hx hb dX11_remembers_293 (by decide) ?_
                exact ih_212 x3_34 M_33 _ _ _ hw (lv_sub hl [2, 3, 4, 0] rfl) hf
        exact hL_212 fu 0 M_18 _ _ _ hw (lv_sub hl [1, 2, 3, 0] rfl) hf
      have hL_163 : ∀ (n_163 : Nat) (x3_35 : Int32) (M_36 : Mem) (H : Heap) (locs : List Loc) (ls : Array Slot), HW LM X M_36 s H locs → lv_has ls 5 [(0, .ref (X.2.2 0)), (1, .int p1), (2, .int x2_3), (3, .int x3_35)] → f_X11_remembers_L163 fu p1 x2_3 k203_16 n_163 x3_35 M_36 = some rs → W p l e rm_X11_remembers s m args below meth c H locs 0 0 Q (F0 m 163 ls []) := by
        intro n_163
        induction n_163 with
        | zero => intro x3_35 M_36 H locs ls hw hl hf; exact no_none hf
        | succ n_163 ih_163 =>
          intro x3_35 M_36 H locs ls hw hl hf
          rw [f_X11_remembers_L163] at hf
          refine lv_iload_n hx hb dX11_remembers_163 rfl (lv_at hl 3 rfl) ?_
          refine lv_aload_n hx hb dX11_remembers_164 rfl (lv_at hl 0 rfl) ?_
          refine gt_X11_141 B hw dX11_remembers_165 ?_
          refine lv_iload_n hx hb dX11_remembers_168 rfl (lv_at hl 1 rfl) ?_
          obtain ⟨g_37, hf⟩ := grd_e hf
          refine m_iald B hw (i := 43) rfl g_37 dX11_remembers_169 ?_
          refine lv_iconst (v := 4) hx hb dX11_remembers_170 (by decide) ?_
          refine lv_imul hx hb dX11_remembers_171 ?_
          refine lv_icmp_ge (tgt := 203) hx hb dX11_remembers_172 (by decide) (fun c_38 => ?_) (fun c_38 => ?_)
          · have hf := it_e hf c_38
            exact J203_16 M_36 _ _ _ hw (lv_sub hl [0, 1, 2] rfl) hf
          · have hf := ie_e hf c_38
            refine lv_aload_n hx hb dX11_remembers_175 rfl (lv_at hl 0 rfl) ?_
            refine gt_X11_123 B hw dX11_remembers_176 ?_
            refine lv_bipush (v := 48) hx hb dX11_remembers_179 (by decide) ?_
            refine lv_iload_n hx hb dX11_remembers_181 rfl (lv_at hl 2 rfl) ?_
            refine lv_imul hx hb dX11_remembers_182 ?_
            refine lv_iload_n hx hb dX11_remembers_183 rfl (lv_at hl 3 rfl) ?_
            refine lv_iadd hx hb dX11_remembers_184 ?_
            refine lv_aload_n hx hb dX11_remembers_185 rfl (lv_at hl 0 rfl) ?_
            refine gt_X11_147 B hw dX11_remembers_186 ?_
            refine lv_bipush (v := 48) hx hb dX11_remembers_189 (by decide) ?_
            refine lv_iload_n hx hb dX11_remembers_191 rfl (lv_at hl 1 rfl) ?_
            refine lv_imul hx hb dX11_remembers_192 ?_
            refine lv_iload_n hx hb dX11_remembers_193 rfl (lv_at hl 3 rfl) ?_
            refine lv_iadd hx hb dX11_remembers_194 ?_
            obtain ⟨g_39, hf⟩ := grd_e hf
            refine m_iald B hw (i := 45) rfl g_39 dX11_remembers_195 ?_
            obtain ⟨g_40, hf⟩ := grd_e hf
            refine m_iast B hw (i := 37) rfl g_40 dX11_remembers_196 hf (fun M_41 H locs hw hf => ?_)
            refine r_iinc (v := (x3_35 + 1)) hx hb dX11_remembers_197 hl (k := 3) rfl rfl (by decide) hf (fun x3_42 ls hl hf => ?_)
            have hl : lv_has ls 5 [(3, .int x3_42), (0, .ref (X.2.2 0)), (1, .int p1), (2, .int x2_3)] := hl
            refine lv_goto (tgt := 163) hx hb dX11_remembers_200 (by decide) ?_
            exact ih_163 x3_42 M_41 _ _ _ hw (lv_sub hl [1, 2, 3, 0] rfl) hf
      exact hL_163 fu 0 M_15 _ _ _ hw (lv_sub hl [1, 2, 3, 0] rfl) hf
    have hL_123 : ∀ (n_123 : Nat) (x3_43 : Int32) (M_44 : Mem) (H : Heap) (locs : List Loc) (ls : Array Slot), HW LM X M_44 s H locs → lv_has ls 5 [(0, .ref (X.2.2 0)), (1, .int p1), (2, .int x2_3), (3, .int x3_43)] → f_X11_remembers_L123 fu p1 x2_3 k161_14 n_123 x3_43 M_44 = some rs → W p l e rm_X11_remembers s m args below meth c H locs 0 0 Q (F0 m 123 ls []) := by
      intro n_123
      induction n_123 with
      | zero => intro x3_43 M_44 H locs ls hw hl hf; exact no_none hf
      | succ n_123 ih_123 =>
        intro x3_43 M_44 H locs ls hw hl hf
        rw [f_X11_remembers_L123] at hf
        refine lv_iload_n hx hb dX11_remembers_123 rfl (lv_at hl 3 rfl) ?_
        refine lv_aload_n hx hb dX11_remembers_124 rfl (lv_at hl 0 rfl) ?_
        refine gt_X11_141 B hw dX11_remembers_125 ?_
        refine lv_iload_n hx hb dX11_remembers_128 rfl (lv_at hl 1 rfl) ?_
        obtain ⟨g_45, hf⟩ := grd_e hf
        refine m_iald B hw (i := 43) rfl g_45 dX11_remembers_129 ?_
        refine lv_icmp_ge (tgt := 161) hx hb dX11_remembers_130 (by decide) (fun c_46 => ?_) (fun c_46 => ?_)
        · have hf := it_e hf c_46
          exact J161_14 M_44 _ _ _ hw (lv_sub hl [0, 1, 2] rfl) hf
        · have hf := ie_e hf c_46
          refine lv_aload_n hx hb dX11_remembers_133 rfl (lv_at hl 0 rfl) ?_
          refine gt_X11_120 B hw dX11_remembers_134 ?_
          refine lv_bipush (v := 12) hx hb dX11_remembers_137 (by decide) ?_
          refine lv_iload_n hx hb dX11_remembers_139 rfl (lv_at hl 2 rfl) ?_
          refine lv_imul hx hb dX11_remembers_140 ?_
          refine lv_iload_n hx hb dX11_remembers_141 rfl (lv_at hl 3 rfl) ?_
          refine lv_iadd hx hb dX11_remembers_142 ?_
          refine lv_aload_n hx hb dX11_remembers_143 rfl (lv_at hl 0 rfl) ?_
          refine gt_X11_144 B hw dX11_remembers_144 ?_
          refine lv_bipush (v := 12) hx hb dX11_remembers_147 (by decide) ?_
          refine lv_iload_n hx hb dX11_remembers_149 rfl (lv_at hl 1 rfl) ?_
          refine lv_imul hx hb dX11_remembers_150 ?_
          refine lv_iload_n hx hb dX11_remembers_151 rfl (lv_at hl 3 rfl) ?_
          refine lv_iadd hx hb dX11_remembers_152 ?_
          obtain ⟨g_47, hf⟩ := grd_e hf
          refine m_iald B hw (i := 44) rfl g_47 dX11_remembers_153 ?_
          obtain ⟨g_48, hf⟩ := grd_e hf
          refine m_iast B hw (i := 36) rfl g_48 dX11_remembers_154 hf (fun M_49 H locs hw hf => ?_)
          refine r_iinc (v := (x3_43 + 1)) hx hb dX11_remembers_155 hl (k := 3) rfl rfl (by decide) hf (fun x3_50 ls hl hf => ?_)
          have hl : lv_has ls 5 [(3, .int x3_50), (0, .ref (X.2.2 0)), (1, .int p1), (2, .int x2_3)] := hl
          refine lv_goto (tgt := 123) hx hb dX11_remembers_158 (by decide) ?_
          exact ih_123 x3_50 M_49 _ _ _ hw (lv_sub hl [1, 2, 3, 0] rfl) hf
    exact hL_123 fu 0 M_13 _ _ _ hw (lv_sub hl [2, 3, 1, 0] rfl) hf
  refine lv_icmp_ne (tgt := 41) hx hb dX11_remembers_6 (by decide) (fun c_51 => ?_) (fun c_51 => ?_)
  · have hf := ie_e hf c_51
    exact J41_1 M _ _ _ hw (lv_sub hl [0, 1] rfl) hf
  · have hf := it_e hf c_51
    refine lv_iconst (v := 1) hx hb dX11_remembers_9 (by decide) ?_
    refine lv_istore_n (lv' := [(2, .int 1), (0, .ref (X.2.2 0)), (1, .int p1)]) hx hb dX11_remembers_10 rfl hl (by decide) rfl (fun ls hl => ?_)
    refine jn_e hf (fun kk => ∀ (M_53 : Mem) (H : Heap) (locs : List Loc) (ls : Array Slot), HW LM X M_53 s H locs → lv_has ls 5 [(0, .ref (X.2.2 0)), (1, .int p1)] → kk M_53 = some rs → W p l e rm_X11_remembers s m args below meth c H locs 0 0 Q (F0 m 31 ls [])) ?_ (fun k31_52 J31_52 hf => ?_)
    · intro M_53 H locs ls hw hl hf
      refine lv_aload_n hx hb dX11_remembers_31 rfl (lv_at hl 0 rfl) ?_
      refine lv_dup hx hb dX11_remembers_32 rfl ?_
      refine gt_X11_232 B hw dX11_remembers_33 ?_
      refine lv_iconst (v := 1) hx hb dX11_remembers_36 (by decide) ?_
      refine lv_isub hx hb dX11_remembers_37 ?_
      refine pt_X11_232 B hw dX11_remembers_38 hf (fun M_54 H locs hw hf => ?_)
      exact J41_1 M_54 _ _ _ hw (lv_sub hl [0, 1] rfl) hf
    have hL_11 : ∀ (n_11 : Nat) (x2_55 : Int32) (M_56 : Mem) (H : Heap) (locs : List Loc) (ls : Array Slot), HW LM X M_56 s H locs → lv_has ls 5 [(0, .ref (X.2.2 0)), (1, .int p1), (2, .int x2_55)] → f_X11_remembers_L11 fu k31_52 n_11 x2_55 M_56 = some rs → W p l e rm_X11_remembers s m args below meth c H locs 0 0 Q (F0 m 11 ls []) := by
      intro n_11
      induction n_11 with
      | zero => intro x2_55 M_56 H locs ls hw hl hf; exact no_none hf
      | succ n_11 ih_11 =>
        intro x2_55 M_56 H locs ls hw hl hf
        rw [f_X11_remembers_L11] at hf
        refine lv_iload_n hx hb dX11_remembers_11 rfl (lv_at hl 2 rfl) ?_
        refine lv_bipush (v := 6) hx hb dX11_remembers_12 (by decide) ?_
        refine lv_icmp_ge (tgt := 31) hx hb dX11_remembers_14 (by decide) (fun c_57 => ?_) (fun c_57 => ?_)
        · have hf := it_e hf c_57
          exact J31_52 M_56 _ _ _ hw (lv_sub hl [0, 1] rfl) hf
        · have hf := ie_e hf c_57
          refine lv_aload_n hx hb dX11_remembers_17 rfl (lv_at hl 0 rfl) ?_
          refine lv_iload_n hx hb dX11_remembers_18 rfl (lv_at hl 2 rfl) ?_
          refine lv_iload_n hx hb dX11_remembers_19 rfl (lv_at hl 2 rfl) ?_
          refine lv_iconst (v := 1) hx hb dX11_remembers_20 (by decide) ?_
          refine lv_isub hx hb dX11_remembers_21 ?_
          obtain ⟨M_59, h_58, hf⟩ := bd_e hf
          refine q_callVv (M' := M_59) (i := 0) (As := [.int x2_55, .int (x2_55 - 1)]) (rest := []) B hw (c_X11_moves l X fu x2_55 (x2_55 - 1) M_56 M_59 h_58 _) cv_X11_238 (rc_11 B hw) rfl hl.1 rfl rfl ⟨Nat.le_of_ble_eq_true rfl, Nat.le_of_ble_eq_true rfl⟩ (Nat.le_of_ble_eq_true rfl) ⟨Nat.le_of_ble_eq_true rfl, Nat.le_of_ble_eq_true rfl⟩ dX11_remembers_22 rfl (fun H locs hw => ?_)
          refine r_iinc (v := (x2_55 + 1)) hx hb dX11_remembers_25 hl (k := 2) rfl rfl (by decide) hf (fun x2_60 ls hl hf => ?_)
          have hl : lv_has ls 5 [(2, .int x2_60), (0, .ref (X.2.2 0)), (1, .int p1)] := hl
          refine lv_goto (tgt := 11) hx hb dX11_remembers_28 (by decide) ?_
          exact ih_11 x2_60 M_59 _ _ _ hw (lv_sub hl [1, 2, 0] rfl) hf
    exact hL_11 fu 1 M _ _ _ hw (lv_sub hl [1, 2, 0] rfl) hf
abbrev rm_X11_scans : Room := { frames := 5, cells := 0, slots := 0, locals := 116 }
set_option maxRecDepth 100000 in
set_option maxHeartbeats 4000000 in
theorem c_X11_scans (l : Launch) (X : XT) (fu : Nat) (p1 : Int32) (M : Mem)  (rs : (Int32 × Mem)) (hf : f_X11_scans fu p1 M = some rs) (sz : Nat) : Met l yX11_scans (wbig yX11_scans cX11_scans 2 (some .boolean)) rm_X11_scans (va_Pc [.ref (X.2.2 0), .int p1] (PW LM X M sz)) (QI LM X rs.2 rs.1 sz) 0 0 (AX LM X sz) := by
  refine met_go (L := LM) (M := M) (by decide +kernel) (Nat.le_of_ble_eq_true rfl) ?_
  intro p e s m args below meth c hsz B hr hlk hw ls hl
  subst hsz
  have hx := B.hx
  have hb := B.hb
  have hl : lv_has ls 2 [(0, .ref (X.2.2 0)), (1, .int p1)] := hl
  generalize hQ : MQ below _ args s 0 0 (AX LM X s.heap.size) = Q
  unfold f_X11_scans at hf
  refine lv_aload_n hx hb dX11_scans_0 rfl (lv_at hl 0 rfl) ?_
  refine gt_X11_141 B hw dX11_scans_1 ?_
  refine lv_iload_n hx hb dX11_scans_4 rfl (lv_at hl 1 rfl) ?_
  refine lv_iconst (v := 0) hx hb dX11_scans_5 (by decide) ?_
  obtain ⟨g_1, hf⟩ := grd_e hf
  refine m_iast B hw (i := 43) rfl g_1 dX11_scans_6 hf (fun M_2 H locs hw hf => ?_)
  refine lv_aload_n hx hb dX11_scans_7 rfl (lv_at hl 0 rfl) ?_
  refine lv_aload_n hx hb dX11_scans_8 rfl (lv_at hl 0 rfl) ?_
  refine gt_X11_65 B hw dX11_scans_9 ?_
  refine lv_iload_n hx hb dX11_scans_12 rfl (lv_at hl 1 rfl) ?_
  refine m_iald B hw (i := 19) rfl g_1 dX11_scans_13 ?_
  refine q_callSi (M' := M_2) (As := [.int (M_2 19 p1.toNatClampNeg)]) (rest := [.ref (X.2.2 0)]) B hw (c_X11_storeOf l X (M_2 19 p1.toNatClampNeg) _ rfl M_2 _) cs_X11_220 rfl hl.1 rfl rfl ⟨Nat.le_of_ble_eq_true rfl, Nat.le_of_ble_eq_true rfl⟩ (Nat.le_of_ble_eq_true rfl) ⟨Nat.le_of_ble_eq_true rfl, Nat.le_of_ble_eq_true rfl⟩ dX11_scans_14 rfl (fun H locs hw => ?_)
  obtain ⟨r_4, M_5, h_3, hf⟩ := bm_e hf
  refine q_callVi (M' := M_5) (i := 0) (As := [.int (f_X11_storeOf (M_2 19 p1.toNatClampNeg))]) (rest := []) B hw (c_X11_requests l X fu (f_X11_storeOf (M_2 19 p1.toNatClampNeg)) M_2 (r_4, M_5) h_3 _) cv_X11_367 (rc_11 B hw) rfl hl.1 rfl rfl ⟨Nat.le_of_ble_eq_true rfl, Nat.le_of_ble_eq_true rfl⟩ (Nat.le_of_ble_eq_true rfl) ⟨Nat.le_of_ble_eq_true rfl, Nat.le_of_ble_eq_true rfl⟩ dX11_scans_17 rfl (fun H locs hw => ?_)
  refine lv_if_ne (tgt := 25) hx hb dX11_scans_20 (by decide) (fun c_6 => ?_) (fun c_6 => ?_)
  · have hf := ie_e hf c_6
    refine lv_aload_n hx hb dX11_scans_25 rfl (lv_at hl 0 rfl) ?_
    refine lv_iload_n hx hb dX11_scans_26 rfl (lv_at hl 1 rfl) ?_
    refine lv_iconst (v := (-1)) hx hb dX11_scans_27 (by decide) ?_
    refine lv_iconst (v := 0) hx hb dX11_scans_28 (by decide) ?_
    refine lv_iconst (v := 0) hx hb dX11_scans_29 (by decide) ?_
    obtain ⟨M_8, h_7, hf⟩ := bd_e hf
    refine q_callVv (M' := M_8) (i := 0) (As := [.int p1, .int (-1), .int 0, .int 0]) (rest := []) B hw (c_X11_comes l X fu p1 (-1) 0 0 M_5 M_8 h_7 _) cv_X11_370 (rc_11 B hw) rfl hl.1 rfl rfl ⟨Nat.le_of_ble_eq_true rfl, Nat.le_of_ble_eq_true rfl⟩ (Nat.le_of_ble_eq_true rfl) ⟨Nat.le_of_ble_eq_true rfl, Nat.le_of_ble_eq_true rfl⟩ dX11_scans_30 rfl (fun H locs hw => ?_)
    refine lv_aload_n hx hb dX11_scans_33 rfl (lv_at hl 0 rfl) ?_
    refine gt_X11_352 B hw dX11_scans_34 ?_
    refine lv_if_ne (tgt := 84) hx hb dX11_scans_37 (by decide) (fun c_9 => ?_) (fun c_9 => ?_)
    · have hf := ie_e hf c_9
      refine lv_aload_n hx hb dX11_scans_84 rfl (lv_at hl 0 rfl) ?_
      refine gt_X11_352 B hw dX11_scans_85 ?_
      obtain ⟨g_10, hf⟩ := grd_e hf
      cases hf
      subst hQ
      exact q_zret B hr hlk g_10 hw rfl rfl dX11_scans_88
    · have hf := it_e hf c_9
      refine lv_aload_n hx hb dX11_scans_40 rfl (lv_at hl 0 rfl) ?_
      refine lv_iload_n hx hb dX11_scans_41 rfl (lv_at hl 1 rfl) ?_
      obtain ⟨M_12, h_11, hf⟩ := bd_e hf
      refine q_callVv (M' := M_12) (i := 0) (As := [.int p1]) (rest := []) B hw (c_X11_remembers l X fu p1 M_8 M_12 h_11 _) cv_X11_374 (rc_11 B hw) rfl hl.1 rfl rfl ⟨Nat.le_of_ble_eq_true rfl, Nat.le_of_ble_eq_true rfl⟩ (Nat.le_of_ble_eq_true rfl) ⟨Nat.le_of_ble_eq_true rfl, Nat.le_of_ble_eq_true rfl⟩ dX11_scans_42 rfl (fun H locs hw => ?_)
      refine lv_aload_n hx hb dX11_scans_45 rfl (lv_at hl 0 rfl) ?_
      refine gt_X11_62 B hw dX11_scans_46 ?_
      refine lv_aload_n hx hb dX11_scans_49 rfl (lv_at hl 0 rfl) ?_
      refine gt_X11_65 B hw dX11_scans_50 ?_
      refine lv_iload_n hx hb dX11_scans_53 rfl (lv_at hl 1 rfl) ?_
      refine m_iald B hw (i := 19) rfl g_1 dX11_scans_54 ?_
      refine lv_aload_n hx hb dX11_scans_55 rfl (lv_at hl 0 rfl) ?_
      refine lv_iload_n hx hb dX11_scans_56 rfl (lv_at hl 1 rfl) ?_
      obtain ⟨r_14, h_13, hf⟩ := bd_e hf
      refine q_callVi (M' := M_12) (i := 0) (As := [.int p1]) (rest := [.int (M_12 19 p1.toNatClampNeg), .ref (X.2.2 18)]) B hw (c_X11_manySent l X fu p1 M_12 r_14 h_13 _) cv_X11_377 (rc_11 B hw) rfl hl.1 rfl rfl ⟨Nat.le_of_ble_eq_true rfl, Nat.le_of_ble_eq_true rfl⟩ (Nat.le_of_ble_eq_true rfl) ⟨Nat.le_of_ble_eq_true rfl, Nat.le_of_ble_eq_true rfl⟩ dX11_scans_57 rfl (fun H locs hw => ?_)
      refine jn_e hf (fun kk => ∀ (v_16 : Int32) (H : Heap) (locs : List Loc) (ls : Array Slot), HW LM X M_12 s H locs → lv_has ls 2 [(0, .ref (X.2.2 0))] → kk v_16 = some rs → W p l e rm_X11_scans s m args below meth c H locs 0 0 Q (F0 m 83 ls [.int v_16, .int (M_12 19 p1.toNatClampNeg), .ref (X.2.2 18)])) ?_ (fun k83_15 J83_15 hf => ?_)
      · intro v_16 H locs ls hw hl hf
        obtain ⟨g_17, hf⟩ := grd_e hf
        refine m_iast B hw (i := 18) rfl g_17 dX11_scans_83 hf (fun M_18 H locs hw hf => ?_)
        refine lv_aload_n hx hb dX11_scans_84 rfl (lv_at hl 0 rfl) ?_
        refine gt_X11_352 B hw dX11_scans_85 ?_
        obtain ⟨g_19, hf⟩ := grd_e hf
        cases hf
        subst hQ
        exact q_zret B hr hlk g_19 hw rfl rfl dX11_scans_88
      refine lv_if_ne (tgt := 72) hx hb dX11_scans_60 (by decide) (fun c_20 => ?_) (fun c_20 => ?_)
      · have hf := ie_e hf c_20
        refine lv_aload_n hx hb dX11_scans_72 rfl (lv_at hl 0 rfl) ?_
        refine gt_X11_62 B hw dX11_scans_73 ?_
        refine lv_aload_n hx hb dX11_scans_76 rfl (lv_at hl 0 rfl) ?_
        refine gt_X11_65 B hw dX11_scans_77 ?_
        refine lv_iload_n hx hb dX11_scans_80 rfl (lv_at hl 1 rfl) ?_
        refine m_iald B hw (i := 19) rfl g_1 dX11_scans_81 ?_
        obtain ⟨g_21, hf⟩ := grd_e hf
        refine m_iald B hw (i := 18) rfl g_21 dX11_scans_82 ?_
        exact J83_15 (M_12 18 (M_12 19 p1.toNatClampNeg).toNatClampNeg) _ _ _ hw (lv_sub hl [0] rfl) hf
      · have hf := it_e hf c_20
        refine lv_aload_n hx hb dX11_scans_63 rfl (lv_at hl 0 rfl) ?_
        refine gt_X11_141 B hw dX11_scans_64 ?_
        refine lv_iload_n hx hb dX11_scans_67 rfl (lv_at hl 1 rfl) ?_
        refine m_iald B hw (i := 43) rfl g_1 dX11_scans_68 ?_
        refine lv_goto (tgt := 83) hx hb dX11_scans_69 (by decide) ?_
        exact J83_15 (M_12 43 p1.toNatClampNeg) _ _ _ hw (lv_sub hl [0] rfl) hf
  · have hf := it_e hf c_6
    refine lv_iconst (v := 1) hx hb dX11_scans_23 (by decide) ?_
    cases hf
    subst hQ
    exact q_zret B hr hlk rfl hw rfl rfl dX11_scans_24
abbrev rm_X11_canServe : Room := { frames := 2, cells := 0, slots := 0, locals := 44 }
set_option maxRecDepth 100000 in
set_option maxHeartbeats 4000000 in
theorem c_X11_canServe (l : Launch) (X : XT) (fu : Nat) (p1 : Int32) (p2 : Int32) (M : Mem)  (rs : Int32) (hf : f_X11_canServe fu p1 p2 M = some rs) (sz : Nat) : Met l yX11_canServe (wbig yX11_canServe cX11_canServe 8 (some .boolean)) rm_X11_canServe (va_Pc [.ref (X.2.2 0), .int p1, .int p2] (PW LM X M sz)) (QI LM X M rs sz) 0 0 (AX LM X sz) := by
  refine met_go (L := LM) (M := M) (by decide +kernel) (Nat.le_of_ble_eq_true rfl) ?_
  intro p e s m args below meth c hsz B hr hlk hw ls hl
  subst hsz
  have hx := B.hx
  have hb := B.hb
  have hl : lv_has ls 8 [(0, .ref (X.2.2 0)), (1, .int p1), (2, .int p2)] := hl
  generalize hQ : MQ below _ args s 0 0 (AX LM X s.heap.size) = Q
  unfold f_X11_canServe at hf
  refine lv_aload_n hx hb dX11_canServe_0 rfl (lv_at hl 0 rfl) ?_
  refine gt_X11_102 B hw dX11_canServe_1 ?_
  refine lv_iload_n hx hb dX11_canServe_4 rfl (lv_at hl 1 rfl) ?_
  obtain ⟨g_1, hf⟩ := grd_e hf
  refine m_iald B hw (i := 30) rfl g_1 dX11_canServe_5 ?_
  refine lv_aload_n hx hb dX11_canServe_6 rfl (lv_at hl 0 rfl) ?_
  refine gt_X11_65 B hw dX11_canServe_7 ?_
  refine lv_iload_n hx hb dX11_canServe_10 rfl (lv_at hl 2 rfl) ?_
  obtain ⟨g_2, hf⟩ := grd_e hf
  refine m_iald B hw (i := 19) rfl g_2 dX11_canServe_11 ?_
  refine nmv_e hf (fun kk => ∀ (H : Heap) (locs : List Loc), HW LM X M s H locs → W p l e rm_X11_canServe s m args below meth c H locs 0 0 Q (F0 m 38 ls [.int kk])) (fun J => ?_) (fun v_5 hf H locs hw => ?_)
  · refine lv_icmp_ne (tgt := 37) hx hb dX11_canServe_12 (by decide) (fun c_3 => ?_) (fun c_3 => ?_)
    · rw [if_neg c_3] at J
      refine lv_iconst (v := 0) hx hb dX11_canServe_37 (by decide) ?_
      exact J _ _ hw
    · rw [if_pos c_3] at J
      refine lv_aload_n hx hb dX11_canServe_15 rfl (lv_at hl 0 rfl) ?_
      refine gt_X11_235 B hw dX11_canServe_16 ?_
      refine lv_aload_n hx hb dX11_canServe_19 rfl (lv_at hl 0 rfl) ?_
      refine gt_X11_105 B hw dX11_canServe_20 ?_
      refine lv_iload_n hx hb dX11_canServe_23 rfl (lv_at hl 1 rfl) ?_
      refine m_iald B hw (i := 31) rfl g_1 dX11_canServe_24 ?_
      refine lv_isub hx hb dX11_canServe_25 ?_
      refine lv_aload_n hx hb dX11_canServe_26 rfl (lv_at hl 0 rfl) ?_
      refine gt_X11_380 B hw dX11_canServe_27 ?_
      refine lv_icmp_gt (tgt := 37) hx hb dX11_canServe_30 (by decide) (fun c_4 => ?_) (fun c_4 => ?_)
      · rw [if_pos c_4] at J
        refine lv_iconst (v := 0) hx hb dX11_canServe_37 (by decide) ?_
        exact J _ _ hw
      · rw [if_neg c_4] at J
        refine lv_iconst (v := 1) hx hb dX11_canServe_33 (by decide) ?_
        refine lv_goto (tgt := 38) hx hb dX11_canServe_34 (by decide) ?_
        exact J _ _ hw
  · refine lv_istore_n (lv' := [(3, .int v_5), (0, .ref (X.2.2 0)), (1, .int p1), (2, .int p2)]) hx hb dX11_canServe_38 rfl hl (by decide) rfl (fun ls hl => ?_)
    refine lv_iconst (v := 4) hx hb dX11_canServe_39 (by decide) ?_
    refine lv_iload_n hx hb dX11_canServe_40 rfl (lv_at hl 2 rfl) ?_
    refine lv_imul hx hb dX11_canServe_41 ?_
    refine r_topn hf (fun x4_6 hf => ?_)
    refine lv_istore (lv' := [(4, .int x4_6), (3, .int v_5), (0, .ref (X.2.2 0)), (1, .int p1), (2, .int p2)]) hx hb dX11_canServe_42 hl (by decide) rfl (fun ls hl => ?_)
    have hL_44 : ∀ (n_44 : Nat) (x3_7 : Int32) (x4_8 : Int32) (H : Heap) (locs : List Loc) (ls : Array Slot), HW LM X M s H locs → lv_has ls 8 [(0, .ref (X.2.2 0)), (1, .int p1), (2, .int p2), (3, .int x3_7), (4, .int x4_8)] → f_X11_canServe_L44 fu p1 p2 M n_44 x3_7 x4_8 = some rs → W p l e rm_X11_canServe s m args below meth c H locs 0 0 Q (F0 m 44 ls []) := by
      intro n_44
      induction n_44 with
      | zero => intro x3_7 x4_8 H locs ls hw hl hf; exact no_none hf
      | succ n_44 ih_44 =>
        intro x3_7 x4_8 H locs ls hw hl hf
        rw [f_X11_canServe_L44] at hf
        refine lv_iload hx hb dX11_canServe_44 (lv_at hl 4 rfl) ?_
        refine lv_iconst (v := 4) hx hb dX11_canServe_46 (by decide) ?_
        refine lv_iload_n hx hb dX11_canServe_47 rfl (lv_at hl 1 rfl) ?_
        refine lv_imul hx hb dX11_canServe_48 ?_
        refine lv_aload_n hx hb dX11_canServe_49 rfl (lv_at hl 0 rfl) ?_
        refine gt_X11_126 B hw dX11_canServe_50 ?_
        refine lv_iload_n hx hb dX11_canServe_53 rfl (lv_at hl 1 rfl) ?_
        obtain ⟨g_9, hf⟩ := grd_e hf
        refine m_iald B hw (i := 38) rfl g_9 dX11_canServe_54 ?_
        refine lv_iadd hx hb dX11_canServe_55 ?_
        refine lv_icmp_ge (tgt := 186) hx hb dX11_canServe_56 (by decide) (fun c_10 => ?_) (fun c_10 => ?_)
        · have hf := it_e hf c_10
          refine lv_iload_n hx hb dX11_canServe_186 rfl (lv_at hl 3 rfl) ?_
          obtain ⟨g_11, hf⟩ := grd_e hf
          cases hf
          subst hQ
          exact q_zret B hr hlk g_11 hw rfl rfl dX11_canServe_187
        · have hf := ie_e hf c_10
          refine lv_iconst (v := 0) hx hb dX11_canServe_59 (by decide) ?_
          refine lv_istore (lv' := [(5, .int 0), (0, .ref (X.2.2 0)), (1, .int p1), (2, .int p2), (3, .int x3_7), (4, .int x4_8)]) hx hb dX11_canServe_60 hl (by decide) rfl (fun ls hl => ?_)
          refine lv_iconst (v := 0) hx hb dX11_canServe_62 (by decide) ?_
          refine lv_istore (lv' := [(6, .int 0), (5, .int 0), (0, .ref (X.2.2 0)), (1, .int p1), (2, .int p2), (3, .int x3_7), (4, .int x4_8)]) hx hb dX11_canServe_63 hl (by decide) rfl (fun ls hl => ?_)
          refine jn_e hf (fun kk => ∀ (x5_13 : Int32) (H : Heap) (locs : List Loc) (ls : Array Slot), HW LM X M s H locs → lv_has ls 8 [(0, .ref (X.2.2 0)), (1, .int p1), (2, .int p2), (3, .int x3_7), (4, .int x4_8), (5, .int x5_13)] → kk x5_13 = some rs → W p l e rm_X11_canServe s m args below meth c H locs 0 0 Q (F0 m 165 ls [])) ?_ (fun k165_12 J165_12 hf => ?_)
          · intro x5_13 H locs ls hw hl hf
            refine lv_iload_n hx hb dX11_canServe_165 rfl (lv_at hl 3 rfl) ?_
            refine jn_e hf (fun kk => ∀ (_ : Unit) (H : Heap) (locs : List Loc) (ls : Array Slot), HW LM X M s H locs → lv_has ls 8 [(0, .ref (X.2.2 0)), (1, .int p1), (2, .int p2), (4, .int x4_8)] → kk () = some rs → W p l e rm_X11_canServe s m args below meth c H locs 0 0 Q (F0 m 178 ls [])) ?_ (fun k178_14 J178_14 hf => ?_)
            · intro _ H locs ls hw hl hf
              refine lv_iconst (v := 0) hx hb dX11_canServe_178 (by decide) ?_
              refine lv_istore_n (lv' := [(3, .int 0), (0, .ref (X.2.2 0)), (1, .int p1), (2, .int p2), (4, .int x4_8)]) hx hb dX11_canServe_179 rfl hl (by decide) rfl (fun ls hl => ?_)
              refine r_iinc (v := (x4_8 + 1)) hx hb dX11_canServe_180 hl (k := 4) rfl rfl (by decide) hf (fun x4_15 ls hl hf => ?_)
              have hl : lv_has ls 8 [(4, .int x4_15), (3, .int 0), (0, .ref (X.2.2 0)), (1, .int p1), (2, .int p2)] := hl
              refine lv_goto (tgt := 44) hx hb dX11_canServe_183 (by decide) ?_
              exact ih_44 0 x4_15 _ _ _ hw (lv_sub hl [2, 3, 4, 1, 0] rfl) hf
            refine lv_if_eq (tgt := 178) hx hb dX11_canServe_166 (by decide) (fun c_16 => ?_) (fun c_16 => ?_)
            · have hf := it_e hf c_16
              exact J178_14 () _ _ _ hw (lv_sub hl [0, 1, 2, 4] rfl) hf
            · have hf := ie_e hf c_16
              refine lv_iload hx hb dX11_canServe_169 (lv_at hl 5 rfl) ?_
              refine lv_if_eq (tgt := 178) hx hb dX11_canServe_171 (by decide) (fun c_17 => ?_) (fun c_17 => ?_)
              · have hf := it_e hf c_17
                exact J178_14 () _ _ _ hw (lv_sub hl [0, 1, 2, 4] rfl) hf
              · have hf := ie_e hf c_17
                refine lv_iconst (v := 1) hx hb dX11_canServe_174 (by decide) ?_
                refine lv_goto (tgt := 179) hx hb dX11_canServe_175 (by decide) ?_
                refine lv_istore_n (lv' := [(3, .int 1), (0, .ref (X.2.2 0)), (1, .int p1), (2, .int p2), (4, .int x4_8), (5, .int x5_13)]) hx hb dX11_canServe_179 rfl hl (by decide) rfl (fun ls hl => ?_)
                refine r_iinc (v := (x4_8 + 1)) hx hb dX11_canServe_180 hl (k := 4) rfl rfl (by decide) hf (fun x4_18 ls hl hf => ?_)
                have hl : lv_has ls 8 [(4, .int x4_18), (3, .int 1), (0, .ref (X.2.2 0)), (1, .int p1), (2, .int p2), (5, .int x5_13)] := hl
                refine lv_goto (tgt := 44) hx hb dX11_canServe_183 (by decide) ?_
                exact ih_44 1 x4_18 _ _ _ hw (lv_sub hl [2, 3, 4, 1, 0] rfl) hf
          have hL_65 : ∀ (n_65 : Nat) (x5_19 : Int32) (x6_20 : Int32) (H : Heap) (locs : List Loc) (ls : Array Slot), HW LM X M s H locs → lv_has ls 8 [(0, .ref (X.2.2 0)), (1, .int p1), (2, .int p2), (3, .int x3_7), (4, .int x4_8), (5, .int x5_19), (6, .int x6_20)] → f_X11_canServe_L65 fu p2 M x4_8 k165_12 n_65 x5_19 x6_20 = some rs → W p l e rm_X11_canServe s m args below meth c H locs 0 0 Q (F0 m 65 ls []) := by
            intro n_65
            induction n_65 with
            | zero => intro x5_19 x6_20 H locs ls hw hl hf; exact no_none hf
            | succ n_65 ih_65 =>
              intro x5_19 x6_20 H locs ls hw hl hf
              rw [f_X11_canServe_L65] at hf
              refine lv_iload hx hb dX11_canServe_65 (lv_at hl 6 rfl) ?_
              refine lv_aload_n hx hb dX11_canServe_67 rfl (lv_at hl 0 rfl) ?_
              refine gt_X11_311 B hw dX11_canServe_68 ?_
              refine lv_icmp_ge (tgt := 165) hx hb dX11_canServe_71 (by decide) (fun c_21 => ?_) (fun c_21 => ?_)
              · have hf := it_e hf c_21
                exact J165_12 x5_19 _ _ _ hw (lv_sub hl [0, 1, 2, 3, 4, 5] rfl) hf
              · have hf := ie_e hf c_21
                refine lv_aload_n hx hb dX11_canServe_74 rfl (lv_at hl 0 rfl) ?_
                refine lv_iload hx hb dX11_canServe_75 (lv_at hl 6 rfl) ?_
                refine lv_iload_n hx hb dX11_canServe_77 rfl (lv_at hl 2 rfl) ?_
                obtain ⟨r_23, h_22, hf⟩ := bd_e hf
                refine q_callVi (M' := M) (i := 0) (As := [.int x6_20, .int p2]) (rest := []) B hw (c_X11_isSent l X fu x6_20 p2 M r_23 h_22 _) cv_X11_324 (rc_11 B hw) rfl hl.1 rfl rfl ⟨Nat.le_of_ble_eq_true rfl, Nat.le_of_ble_eq_true rfl⟩ (Nat.le_of_ble_eq_true rfl) ⟨Nat.le_of_ble_eq_true rfl, Nat.le_of_ble_eq_true rfl⟩ dX11_canServe_78 rfl (fun H locs hw => ?_)
                refine jn_e hf (fun kk => ∀ (v_25 : Int32) (H : Heap) (locs : List Loc) (ls : Array Slot), HW LM X M s H locs → lv_has ls 8 [(0, .ref (X.2.2 0)), (1, .int p1), (2, .int p2), (3, .int x3_7), (4, .int x4_8), (5, .int x5_19), (6, .int x6_20)] → kk v_25 = some rs → W p l e rm_X11_canServe s m args below meth c H locs 0 0 Q (F0 m 106 ls [.int v_25])) ?_ (fun k106_24 J106_24 hf => ?_)
                · intro v_25 H locs ls hw hl hf
                  refine lv_istore (lv' := [(7, .int v_25), (0, .ref (X.2.2 0)), (1, .int p1), (2, .int p2), (3, .int x3_7), (4, .int x4_8), (5, .int x5_19), (6, .int x6_20)]) hx hb dX11_canServe_106 hl (by decide) rfl (fun ls hl => ?_)
                  refine lv_iload hx hb dX11_canServe_108 (lv_at hl 6 rfl) ?_
                  refine jn_e hf (fun kk => ∀ (_ : Unit) (H : Heap) (locs : List Loc) (ls : Array Slot), HW LM X M s H locs → lv_has ls 8 [(0, .ref (X.2.2 0)), (1, .int p1), (2, .int p2), (3, .int x3_7), (4, .int x4_8), (6, .int x6_20)] → kk () = some rs → W p l e rm_X11_canServe s m args below meth c H locs 0 0 Q (F0 m 152 ls [])) ?_ (fun k152_26 J152_26 hf => ?_)
                  · intro _ H locs ls hw hl hf
                    refine lv_iconst (v := 1) hx hb dX11_canServe_152 (by decide) ?_
                    refine lv_goto (tgt := 157) hx hb dX11_canServe_153 (by decide) ?_
                    refine lv_istore (lv' := [(5, .int 1), (0, .ref (X.2.2 0)), (1, .int p1), (2, .int p2), (3, .int x3_7), (4, .int x4_8), (6, .int x6_20)]) hx hb dX11_canServe_157 hl (by decide) rfl (fun ls hl => ?_)
                    refine r_iinc (v := (x6_20 + 1)) hx hb dX11_canServe_159 hl (k := 6) rfl rfl (by decide) hf (fun x6_27 ls hl hf => ?_)
                    have hl : lv_has ls 8 [(6, .int x6_27), (5, .int 1), (0, .ref (X.2.2 0)), (1, .int p1), (2, .int p2), (3, .int x3_7), (4, .int x4_8)] := hl
                    refine lv_goto (tgt := 65) hx hb dX11_canServe_162 (by decide) ?_
                    exact ih_65 1 x6_27 _ _ _ hw (lv_sub hl [2, 3, 4, 5, 6, 1, 0] rfl) hf
                  refine lv_if_ne (tgt := 152) hx hb dX11_canServe_110 (by decide) (fun c_28 => ?_) (fun c_28 => ?_)
                  · have hf := ie_e hf c_28
                    exact J152_26 () _ _ _ hw (lv_sub hl [1, 2, 3, 4, 5, 7] rfl) hf
                  · have hf := it_e hf c_28
                    refine lv_iload hx hb dX11_canServe_113 (lv_at hl 0 rfl) ?_
                    refine jn_e hf (fun kk => ∀ (_ : Unit) (H : Heap) (locs : List Loc) (ls : Array Slot), HW LM X M s H locs → lv_has ls 8 [(0, .ref (X.2.2 0)), (1, .int p1), (2, .int p2), (3, .int x3_7), (4, .int x4_8), (6, .int x6_20)] → kk () = some rs → W p l e rm_X11_canServe s m args below meth c H locs 0 0 Q (F0 m 156 ls [])) ?_ (fun k156_29 J156_29 hf => ?_)
                    · intro _ H locs ls hw hl hf
                      refine lv_iconst (v := 0) hx hb dX11_canServe_156 (by decide) ?_
                      refine lv_istore (lv' := [(5, .int 0), (0, .ref (X.2.2 0)), (1, .int p1), (2, .int p2), (3, .int x3_7), (4, .int x4_8), (6, .int x6_20)]) hx hb dX11_canServe_157 hl (by decide) rfl (fun ls hl => ?_)
                      refine r_iinc (v := (x6_20 + 1)) hx hb dX11_canServe_159 hl (k := 6) rfl rfl (by decide) hf (fun x6_30 ls hl hf => ?_)
                      have hl : lv_has ls 8 [(6, .int x6_30), (5, .int 0), (0, .ref (X.2.2 0)), (1, .int p1), (2, .int p2), (3, .int x3_7), (4, .int x4_8)] := hl
                      refine lv_goto (tgt := 65) hx hb dX11_canServe_162 (by decide) ?_
                      exact ih_65 0 x6_30 _ _ _ hw (lv_sub hl [2, 3, 4, 5, 6, 1, 0] rfl) hf
                    refine lv_if_eq (tgt := 156) hx hb dX11_canServe_115 (by decide) (fun c_31 => ?_) (fun c_31 => ?_)
                    · have hf := it_e hf c_31
                      exact J156_29 () _ _ _ hw (lv_sub hl [1, 2, 3, 4, 5, 7] rfl) hf
                    · have hf := ie_e hf c_31
                      refine lv_aload_n hx hb dX11_canServe_118 rfl (lv_at hl 1 rfl) ?_
                      refine gt_X11_132 B hw dX11_canServe_119 ?_
                      refine lv_iload hx hb dX11_canServe_122 (lv_at hl 5 rfl) ?_
                      obtain ⟨g_32, hf⟩ := grd_e hf
                      refine m_iald B hw (i := 40) rfl g_32 dX11_canServe_124 ?_
                      refine lv_aload_n hx hb dX11_canServe_125 rfl (lv_at hl 1 rfl) ?_
                      refine gt_X11_135 B hw dX11_canServe_126 ?_
                      refine lv_iload hx hb dX11_canServe_129 (lv_at hl 5 rfl) ?_
                      refine m_iald B hw (i := 41) rfl g_32 dX11_canServe_131 ?_
                      refine lv_aload_n hx hb dX11_canServe_132 rfl (lv_at hl 1 rfl) ?_
                      refine gt_X11_86 B hw dX11_canServe_133 ?_
                      refine lv_iload hx hb dX11_canServe_136 (lv_at hl 7 rfl) ?_
                      obtain ⟨g_33, hf⟩ := grd_e hf
                      refine m_iald B hw (i := 26) rfl g_33 dX11_canServe_138 ?_
                      refine lv_aload_n hx hb dX11_canServe_139 rfl (lv_at hl 1 rfl) ?_
                      refine gt_X11_89 B hw dX11_canServe_140 ?_
                      refine lv_iload hx hb dX11_canServe_143 (lv_at hl 7 rfl) ?_
                      refine m_iald B hw (i := 27) rfl g_33 dX11_canServe_145 ?_
                      refine q_callSi (M' := M) (As := [.int (M 40 x4_8.toNatClampNeg), .int (M 41 x4_8.toNatClampNeg), .int (M 26 x6_20.toNatClampNeg), .int (M 27 x6_20.toNatClampNeg)]) (rest := []) B hw (c_X11_follows l X (M 40 x4_8.toNatClampNeg) (M 41 x4_8.toNatClampNeg) (M 26 x6_20.toNatClampNeg) (M 27 x6_20.toNatClampNeg) _ rfl M _) cs_X11_383 rfl hl.1 rfl rfl ⟨Nat.le_of_ble_eq_true rfl, Nat.le_of_ble_eq_true rfl⟩ (Nat.le_of_ble_eq_true rfl) ⟨Nat.le_of_ble_eq_true rfl, Nat.le_of_ble_eq_true rfl⟩ dX11_canServe_146 rfl (fun H locs hw => ?_)
                      refine lv_if_eq (tgt := 156) hx hb dX11_canServe_149 (by decide) (fun c_34 => ?_) (fun c_34 => ?_)
                      · have hf := it_e hf c_34
                        exact J156_29 () _ _ _ hw (lv_sub hl [1, 2, 3, 4, 5, 7] rfl) hf
                      · have hf := ie_e hf c_34
                        exact J152_26 () _ _ _ hw (lv_sub hl [1, 2, 3, 4, 5, 7] rfl) hf
                refine jn_e hf (fun kk => ∀ (_ : Unit) (H : Heap) (locs : List Loc) (ls : Array Slot), HW LM X M s H locs → lv_has ls 8 [(0, .ref (X.2.2 0)), (1, .int p1), (2, .int p2), (3, .int x3_7), (4, .int x4_8), (5, .int x5_19), (6, .int x6_20)] → kk () = some rs → W p l e rm_X11_canServe s m args below meth c H locs 0 0 Q (F0 m 105 ls [])) ?_ (fun k105_35 J105_35 hf => ?_)
                · intro _ H locs ls hw hl hf
                  refine lv_iconst (v := 0) hx hb dX11_canServe_105 (by decide) ?_
                  exact J106_24 0 _ _ _ hw (lv_sub hl [0, 1, 2, 3, 4, 5, 6] rfl) hf
                refine lv_if_eq (tgt := 105) hx hb dX11_canServe_81 (by decide) (fun c_36 => ?_) (fun c_36 => ?_)
                · have hf := it_e hf c_36
                  exact J105_35 () _ _ _ hw (lv_sub hl [0, 1, 2, 3, 4, 5, 6] rfl) hf
                · have hf := ie_e hf c_36
                  refine lv_aload_n hx hb dX11_canServe_84 rfl (lv_at hl 0 rfl) ?_
                  refine gt_X11_83 B hw dX11_canServe_85 ?_
                  refine lv_iload hx hb dX11_canServe_88 (lv_at hl 6 rfl) ?_
                  obtain ⟨g_37, hf⟩ := grd_e hf
                  refine m_iald B hw (i := 25) rfl g_37 dX11_canServe_90 ?_
                  refine lv_aload_n hx hb dX11_canServe_91 rfl (lv_at hl 0 rfl) ?_
                  refine gt_X11_129 B hw dX11_canServe_92 ?_
                  refine lv_iload hx hb dX11_canServe_95 (lv_at hl 4 rfl) ?_
                  obtain ⟨g_38, hf⟩ := grd_e hf
                  refine m_iald B hw (i := 39) rfl g_38 dX11_canServe_97 ?_
                  refine lv_icmp_ne (tgt := 105) hx hb dX11_canServe_98 (by decide) (fun c_39 => ?_) (fun c_39 => ?_)
                  · have hf := ie_e hf c_39
                    exact J105_35 () _ _ _ hw (lv_sub hl [0, 1, 2, 3, 4, 5, 6] rfl) hf
                  · have hf := it_e hf c_39
                    refine lv_iconst (v := 1) hx hb dX11_canServe_101 (by decide) ?_
                    refine lv_goto (tgt := 106) hx hb dX11_canServe_102 (by decide) ?_
                    exact J106_24 1 _ _ _ hw (lv_sub hl [0, 1, 2, 3, 4, 5, 6] rfl) hf
          exact hL_65 fu 0 0 _ _ _ hw (lv_sub hl [2, 3, 4, 5, 6, 1, 0] rfl) hf
    exact hL_44 fu v_5 x4_6 _ _ _ hw (lv_sub hl [2, 3, 4, 1, 0] rfl) hf
abbrev rm_X11_entryFor : Room := { frames := 3, cells := 0, slots := 0, locals := 71 }
set_option maxRecDepth 100000 in
set_option maxHeartbeats 4000000 in
theorem c_X11_entryFor (l : Launch) (X : XT) (fu : Nat) (p1 : Int32) (M : Mem)  (rs : Int32) (hf : f_X11_entryFor fu p1 M = some rs) (sz : Nat) : Met l yX11_entryFor (wbig yX11_entryFor cX11_entryFor 4 (some .int)) rm_X11_entryFor (va_Pc [.ref (X.2.2 0), .int p1] (PW LM X M sz)) (QI LM X M rs sz) 0 0 (AX LM X sz) := by
  refine met_go (L := LM) (M := M) (by decide +kernel) (Nat.le_of_ble_eq_true rfl) ?_
  intro p e s m args below meth c hsz B hr hlk hw ls hl
  subst hsz
  have hx := B.hx
  have hb := B.hb
  have hl : lv_has ls 4 [(0, .ref (X.2.2 0)), (1, .int p1)] := hl
  generalize hQ : MQ below _ args s 0 0 (AX LM X s.heap.size) = Q
  unfold f_X11_entryFor at hf
  refine lv_iconst (v := (-1)) hx hb dX11_entryFor_0 (by decide) ?_
  refine lv_istore_n (lv' := [(2, .int (-1)), (0, .ref (X.2.2 0)), (1, .int p1)]) hx hb dX11_entryFor_1 rfl hl (by decide) rfl (fun ls hl => ?_)
  refine lv_iconst (v := 0) hx hb dX11_entryFor_2 (by decide) ?_
  refine lv_istore_n (lv' := [(3, .int 0), (2, .int (-1)), (0, .ref (X.2.2 0)), (1, .int p1)]) hx hb dX11_entryFor_3 rfl hl (by decide) rfl (fun ls hl => ?_)
  have hL_4 : ∀ (n_4 : Nat) (x2_1 : Int32) (x3_2 : Int32) (H : Heap) (locs : List Loc) (ls : Array Slot), HW LM X M s H locs → lv_has ls 4 [(0, .ref (X.2.2 0)), (1, .int p1), (2, .int x2_1), (3, .int x3_2)] → f_X11_entryFor_L4 fu p1 M n_4 x2_1 x3_2 = some rs → W p l e rm_X11_entryFor s m args below meth c H locs 0 0 Q (F0 m 4 ls []) := by
    intro n_4
    induction n_4 with
    | zero => intro x2_1 x3_2 H locs ls hw hl hf; exact no_none hf
    | succ n_4 ih_4 =>
      intro x2_1 x3_2 H locs ls hw hl hf
      rw [f_X11_entryFor_L4] at hf
      refine lv_iload_n hx hb dX11_entryFor_4 rfl (lv_at hl 3 rfl) ?_
      refine lv_aload_n hx hb dX11_entryFor_5 rfl (lv_at hl 0 rfl) ?_
      refine gt_X11_232 B hw dX11_entryFor_6 ?_
      refine lv_icmp_ge (tgt := 33) hx hb dX11_entryFor_9 (by decide) (fun c_3 => ?_) (fun c_3 => ?_)
      · have hf := it_e hf c_3
        refine lv_iload_n hx hb dX11_entryFor_33 rfl (lv_at hl 2 rfl) ?_
        cases hf
        subst hQ
        exact q_iret B hr hlk hw rfl rfl dX11_entryFor_34
      · have hf := ie_e hf c_3
        refine lv_aload_n hx hb dX11_entryFor_12 rfl (lv_at hl 0 rfl) ?_
        refine lv_iload_n hx hb dX11_entryFor_13 rfl (lv_at hl 3 rfl) ?_
        refine lv_iload_n hx hb dX11_entryFor_14 rfl (lv_at hl 1 rfl) ?_
        obtain ⟨r_5, h_4, hf⟩ := bd_e hf
        refine q_callVi (M' := M) (i := 0) (As := [.int x3_2, .int p1]) (rest := []) B hw (c_X11_canServe l X fu x3_2 p1 M r_5 h_4 _) cv_X11_387 (rc_11 B hw) rfl hl.1 rfl rfl ⟨Nat.le_of_ble_eq_true rfl, Nat.le_of_ble_eq_true rfl⟩ (Nat.le_of_ble_eq_true rfl) ⟨Nat.le_of_ble_eq_true rfl, Nat.le_of_ble_eq_true rfl⟩ dX11_entryFor_15 rfl (fun H locs hw => ?_)
        refine lv_if_eq (tgt := 25) hx hb dX11_entryFor_18 (by decide) (fun c_6 => ?_) (fun c_6 => ?_)
        · have hf := it_e hf c_6
          refine lv_iload_n hx hb dX11_entryFor_25 rfl (lv_at hl 2 rfl) ?_
          refine lv_istore_n (lv' := [(2, .int x2_1), (0, .ref (X.2.2 0)), (1, .int p1), (3, .int x3_2)]) hx hb dX11_entryFor_26 rfl hl (by decide) rfl (fun ls hl => ?_)
          refine r_iinc (v := (x3_2 + 1)) hx hb dX11_entryFor_27 hl (k := 3) rfl rfl (by decide) hf (fun x3_7 ls hl hf => ?_)
          have hl : lv_has ls 4 [(3, .int x3_7), (2, .int x2_1), (0, .ref (X.2.2 0)), (1, .int p1)] := hl
          refine lv_goto (tgt := 4) hx hb dX11_entryFor_30 (by decide) ?_
          exact ih_4 x2_1 x3_7 _ _ _ hw (lv_sub hl [2, 3, 1, 0] rfl) hf
        · have hf := ie_e hf c_6
          refine lv_iload_n hx hb dX11_entryFor_21 rfl (lv_at hl 3 rfl) ?_
          refine lv_goto (tgt := 26) hx hb dX11_entryFor_22 (by decide) ?_
          refine lv_istore_n (lv' := [(2, .int x3_2), (0, .ref (X.2.2 0)), (1, .int p1), (3, .int x3_2)]) hx hb dX11_entryFor_26 rfl hl (by decide) rfl (fun ls hl => ?_)
          refine r_iinc (v := (x3_2 + 1)) hx hb dX11_entryFor_27 hl (k := 3) rfl rfl (by decide) hf (fun x3_8 ls hl hf => ?_)
          have hl : lv_has ls 4 [(3, .int x3_8), (2, .int x3_2), (0, .ref (X.2.2 0)), (1, .int p1)] := hl
          refine lv_goto (tgt := 4) hx hb dX11_entryFor_30 (by decide) ?_
          exact ih_4 x3_2 x3_8 _ _ _ hw (lv_sub hl [2, 3, 1, 0] rfl) hf
  exact hL_4 fu (-1) 0 _ _ _ hw (lv_sub hl [2, 3, 1, 0] rfl) hf
abbrev rm_X11_serves : Room := { frames := 0, cells := 0, slots := 0, locals := 0 }
set_option maxRecDepth 100000 in
set_option maxHeartbeats 4000000 in
theorem c_X11_serves (l : Launch) (X : XT) (fu : Nat) (p1 : Int32) (p2 : Int32) (M : Mem)  (rs : Mem) (hf : f_X11_serves fu p1 p2 M = some rs) (sz : Nat) : Met l yX11_serves (wbig yX11_serves cX11_serves 4 none) rm_X11_serves (va_Pc [.ref (X.2.2 0), .int p1, .int p2] (PW LM X M sz)) (QV LM X rs sz) 0 0 (AX LM X sz) := by
  refine met_go (L := LM) (M := M) (by decide +kernel) (Nat.le_of_ble_eq_true rfl) ?_
  intro p e s m args below meth c hsz B hr hlk hw ls hl
  subst hsz
  have hx := B.hx
  have hb := B.hb
  have hl : lv_has ls 4 [(0, .ref (X.2.2 0)), (1, .int p1), (2, .int p2)] := hl
  generalize hQ : MQ below _ args s 0 0 (AX LM X s.heap.size) = Q
  unfold f_X11_serves at hf
  refine lv_aload_n hx hb dX11_serves_0 rfl (lv_at hl 0 rfl) ?_
  refine gt_X11_141 B hw dX11_serves_1 ?_
  refine lv_iload_n hx hb dX11_serves_4 rfl (lv_at hl 2 rfl) ?_
  refine lv_aload_n hx hb dX11_serves_5 rfl (lv_at hl 0 rfl) ?_
  refine gt_X11_117 B hw dX11_serves_6 ?_
  refine lv_iload_n hx hb dX11_serves_9 rfl (lv_at hl 1 rfl) ?_
  obtain ⟨g_1, hf⟩ := grd_e hf
  refine m_iald B hw (i := 35) rfl g_1 dX11_serves_10 ?_
  obtain ⟨g_2, hf⟩ := grd_e hf
  refine m_iast B hw (i := 43) rfl g_2 dX11_serves_11 hf (fun M_3 H locs hw hf => ?_)
  refine lv_iconst (v := 0) hx hb dX11_serves_12 (by decide) ?_
  refine lv_istore_n (lv' := [(3, .int 0), (0, .ref (X.2.2 0)), (1, .int p1), (2, .int p2)]) hx hb dX11_serves_13 rfl hl (by decide) rfl (fun ls hl => ?_)
  refine jn_e hf (fun kk => ∀ (M_5 : Mem) (H : Heap) (locs : List Loc) (ls : Array Slot), HW LM X M_5 s H locs → lv_has ls 4 [(0, .ref (X.2.2 0)), (1, .int p1), (2, .int p2)] → kk M_5 = some rs → W p l e rm_X11_serves s m args below meth c H locs 0 0 Q (F0 m 48 ls [])) ?_ (fun k48_4 J48_4 hf => ?_)
  · intro M_5 H locs ls hw hl hf
    refine lv_iconst (v := 0) hx hb dX11_serves_48 (by decide) ?_
    refine lv_istore_n (lv' := [(3, .int 0), (0, .ref (X.2.2 0)), (1, .int p1), (2, .int p2)]) hx hb dX11_serves_49 rfl hl (by decide) rfl (fun ls hl => ?_)
    refine jn_e hf (fun kk => ∀ (M_7 : Mem) (H : Heap) (locs : List Loc) (ls : Array Slot), HW LM X M_7 s H locs → lv_has ls 4 [(0, .ref (X.2.2 0)), (1, .int p1), (2, .int p2)] → kk M_7 = some rs → W p l e rm_X11_serves s m args below meth c H locs 0 0 Q (F0 m 84 ls [])) ?_ (fun k84_6 J84_6 hf => ?_)
    · intro M_7 H locs ls hw hl hf
      refine lv_aload_n hx hb dX11_serves_84 rfl (lv_at hl 0 rfl) ?_
      refine gt_X11_150 B hw dX11_serves_85 ?_
      refine lv_iload_n hx hb dX11_serves_88 rfl (lv_at hl 2 rfl) ?_
      refine lv_aload_n hx hb dX11_serves_89 rfl (lv_at hl 0 rfl) ?_
      refine gt_X11_108 B hw dX11_serves_90 ?_
      refine lv_iload_n hx hb dX11_serves_93 rfl (lv_at hl 1 rfl) ?_
      refine m_iald B hw (i := 32) rfl g_1 dX11_serves_94 ?_
      refine m_iast B hw (i := 46) rfl g_2 dX11_serves_95 hf (fun M_8 H locs hw hf => ?_)
      refine lv_aload_n hx hb dX11_serves_96 rfl (lv_at hl 0 rfl) ?_
      refine gt_X11_153 B hw dX11_serves_97 ?_
      refine lv_iload_n hx hb dX11_serves_100 rfl (lv_at hl 2 rfl) ?_
      refine lv_aload_n hx hb dX11_serves_101 rfl (lv_at hl 0 rfl) ?_
      refine gt_X11_111 B hw dX11_serves_102 ?_
      refine lv_iload_n hx hb dX11_serves_105 rfl (lv_at hl 1 rfl) ?_
      refine m_iald B hw (i := 33) rfl g_1 dX11_serves_106 ?_
      refine lv_iconst (v := (-1)) hx hb dX11_serves_107 (by decide) ?_
      refine nmv_e hf (fun kk => ∀ (H : Heap) (locs : List Loc), HW LM X M_8 s H locs → W p l e rm_X11_serves s m args below meth c H locs 0 0 Q (F0 m 124 ls [.int kk, .int p2, .ref (X.2.2 47)])) (fun J => ?_) (fun v_10 hf H locs hw => ?_)
      · refine lv_icmp_ne (tgt := 118) hx hb dX11_serves_108 (by decide) (fun c_9 => ?_) (fun c_9 => ?_)
        · rw [if_neg c_9] at J
          refine lv_aload_n hx hb dX11_serves_118 rfl (lv_at hl 0 rfl) ?_
          refine gt_X11_111 B hw dX11_serves_119 ?_
          refine lv_iload_n hx hb dX11_serves_122 rfl (lv_at hl 1 rfl) ?_
          refine m_iald B hw (i := 33) rfl g_1 dX11_serves_123 ?_
          exact J _ _ hw
        · rw [if_pos c_9] at J
          refine lv_aload_n hx hb dX11_serves_111 rfl (lv_at hl 0 rfl) ?_
          refine gt_X11_242 B hw dX11_serves_112 ?_
          refine lv_goto (tgt := 124) hx hb dX11_serves_115 (by decide) ?_
          exact J _ _ hw
      · refine m_iast B hw (i := 47) rfl g_2 dX11_serves_124 hf (fun M_11 H locs hw hf => ?_)
        cases hf
        subst hQ
        exact q_vret B hr hlk hw rfl dX11_serves_125
    have hL_50 : ∀ (n_50 : Nat) (x3_12 : Int32) (M_13 : Mem) (H : Heap) (locs : List Loc) (ls : Array Slot), HW LM X M_13 s H locs → lv_has ls 4 [(0, .ref (X.2.2 0)), (1, .int p1), (2, .int p2), (3, .int x3_12)] → f_X11_serves_L50 fu p1 p2 k84_6 n_50 x3_12 M_13 = some rs → W p l e rm_X11_serves s m args below meth c H locs 0 0 Q (F0 m 50 ls []) := by
      intro n_50
      induction n_50 with
      | zero => intro x3_12 M_13 H locs ls hw hl hf; exact no_none hf
      | succ n_50 ih_50 =>
        intro x3_12 M_13 H locs ls hw hl hf
        rw [f_X11_serves_L50] at hf
        refine lv_iload_n hx hb dX11_serves_50 rfl (lv_at hl 3 rfl) ?_
        refine lv_bipush (v := 48) hx hb dX11_serves_51 (by decide) ?_
        refine lv_icmp_ge (tgt := 84) hx hb dX11_serves_53 (by decide) (fun c_14 => ?_) (fun c_14 => ?_)
        · have hf := it_e hf c_14
          exact J84_6 M_13 _ _ _ hw (lv_sub hl [0, 1, 2] rfl) hf
        · have hf := ie_e hf c_14
          refine lv_aload_n hx hb dX11_serves_56 rfl (lv_at hl 0 rfl) ?_
          refine gt_X11_147 B hw dX11_serves_57 ?_
          refine lv_bipush (v := 48) hx hb dX11_serves_60 (by decide) ?_
          refine lv_iload_n hx hb dX11_serves_62 rfl (lv_at hl 2 rfl) ?_
          refine lv_imul hx hb dX11_serves_63 ?_
          refine lv_iload_n hx hb dX11_serves_64 rfl (lv_at hl 3 rfl) ?_
          refine lv_iadd hx hb dX11_serves_65 ?_
          refine lv_aload_n hx hb dX11_serves_66 rfl (lv_at hl 0 rfl) ?_
          refine gt_X11_123 B hw dX11_serves_67 ?_
          refine lv_bipush (v := 48) hx hb dX11_serves_70 (by decide) ?_
          refine lv_iload_n hx hb dX11_serves_72 rfl (lv_at hl 1 rfl) ?_
          refine lv_imul hx hb dX11_serves_73 ?_
          refine lv_iload_n hx hb dX11_serves_74 rfl (lv_at hl 3 rfl) ?_
          refine lv_iadd hx hb dX11_serves_75 ?_
          obtain ⟨g_15, hf⟩ := grd_e hf
          refine m_iald B hw (i := 37) rfl g_15 dX11_serves_76 ?_
          obtain ⟨g_16, hf⟩ := grd_e hf
          refine m_iast B hw (i := 45) rfl g_16 dX11_serves_77 hf (fun M_17 H locs hw hf => ?_)
          refine r_iinc (v := (x3_12 + 1)) hx hb dX11_serves_78 hl (k := 3) rfl rfl (by decide) hf (fun x3_18 ls hl hf => ?_)
          have hl : lv_has ls 4 [(3, .int x3_18), (0, .ref (X.2.2 0)), (1, .int p1), (2, .int p2)] := hl
          refine lv_goto (tgt := 50) hx hb dX11_serves_81 (by decide) ?_
          exact ih_50 x3_18 M_17 _ _ _ hw (lv_sub hl [1, 2, 3, 0] rfl) hf
    exact hL_50 fu 0 M_5 _ _ _ hw (lv_sub hl [1, 2, 3, 0] rfl) hf
  have hL_14 : ∀ (n_14 : Nat) (x3_19 : Int32) (M_20 : Mem) (H : Heap) (locs : List Loc) (ls : Array Slot), HW LM X M_20 s H locs → lv_has ls 4 [(0, .ref (X.2.2 0)), (1, .int p1), (2, .int p2), (3, .int x3_19)] → f_X11_serves_L14 fu p1 p2 k48_4 n_14 x3_19 M_20 = some rs → W p l e rm_X11_serves s m args below meth c H locs 0 0 Q (F0 m 14 ls []) := by
    intro n_14
    induction n_14 with
    | zero => intro x3_19 M_20 H locs ls hw hl hf; exact no_none hf
    | succ n_14 ih_14 =>
      intro x3_19 M_20 H locs ls hw hl hf
      rw [f_X11_serves_L14] at hf
      refine lv_iload_n hx hb dX11_serves_14 rfl (lv_at hl 3 rfl) ?_
      refine lv_bipush (v := 12) hx hb dX11_serves_15 (by decide) ?_
      refine lv_icmp_ge (tgt := 48) hx hb dX11_serves_17 (by decide) (fun c_21 => ?_) (fun c_21 => ?_)
      · have hf := it_e hf c_21
        exact J48_4 M_20 _ _ _ hw (lv_sub hl [0, 1, 2] rfl) hf
      · have hf := ie_e hf c_21
        refine lv_aload_n hx hb dX11_serves_20 rfl (lv_at hl 0 rfl) ?_
        refine gt_X11_144 B hw dX11_serves_21 ?_
        refine lv_bipush (v := 12) hx hb dX11_serves_24 (by decide) ?_
        refine lv_iload_n hx hb dX11_serves_26 rfl (lv_at hl 2 rfl) ?_
        refine lv_imul hx hb dX11_serves_27 ?_
        refine lv_iload_n hx hb dX11_serves_28 rfl (lv_at hl 3 rfl) ?_
        refine lv_iadd hx hb dX11_serves_29 ?_
        refine lv_aload_n hx hb dX11_serves_30 rfl (lv_at hl 0 rfl) ?_
        refine gt_X11_120 B hw dX11_serves_31 ?_
        refine lv_bipush (v := 12) hx hb dX11_serves_34 (by decide) ?_
        refine lv_iload_n hx hb dX11_serves_36 rfl (lv_at hl 1 rfl) ?_
        refine lv_imul hx hb dX11_serves_37 ?_
        refine lv_iload_n hx hb dX11_serves_38 rfl (lv_at hl 3 rfl) ?_
        refine lv_iadd hx hb dX11_serves_39 ?_
        obtain ⟨g_22, hf⟩ := grd_e hf
        refine m_iald B hw (i := 36) rfl g_22 dX11_serves_40 ?_
        obtain ⟨g_23, hf⟩ := grd_e hf
        refine m_iast B hw (i := 44) rfl g_23 dX11_serves_41 hf (fun M_24 H locs hw hf => ?_)
        refine r_iinc (v := (x3_19 + 1)) hx hb dX11_serves_42 hl (k := 3) rfl rfl (by decide) hf (fun x3_25 ls hl hf => ?_)
        have hl : lv_has ls 4 [(3, .int x3_25), (0, .ref (X.2.2 0)), (1, .int p1), (2, .int p2)] := hl
        refine lv_goto (tgt := 14) hx hb dX11_serves_45 (by decide) ?_
        exact ih_14 x3_25 M_24 _ _ _ hw (lv_sub hl [1, 2, 3, 0] rfl) hf
  exact hL_14 fu 0 M_3 _ _ _ hw (lv_sub hl [1, 2, 3, 0] rfl) hf
