abbrev rm_X11_guess : Room := { frames := 3, cells := 0, slots := 0, locals := 67 }
set_option maxRecDepth 100000 in
set_option maxHeartbeats 4000000 in
theorem c_X11_guess (l : Launch) (X : XT) (fu : Nat) (p1 : Int32) (M : Mem)  (rs : Int32) (hf : f_X11_guess fu p1 M = some rs) (sz : Nat) : Met l yX11_guess (wbig yX11_guess cX11_guess 4 (some .int)) rm_X11_guess (va_Pc [.ref (X.2.2 0), .int p1] (PW LM X M sz)) (QI LM X M rs sz) 0 0 (AX LM X sz) := by
  refine met_go (L := LM) (M := M) (by decide +kernel) (Nat.le_of_ble_eq_true rfl) ?_
  intro p e s m args below meth c hsz B hr hlk hw ls hl
  subst hsz
  have hx := B.hx
  have hb := B.hb
  have hl : lv_has ls 4 [(0, .ref (X.2.2 0)), (1, .int p1)] := hl
  generalize hQ : MQ below _ args s 0 0 (AX LM X s.heap.size) = Q
  unfold f_X11_guess at hf
  refine lv_aload_n hx hb dX11_guess_0 rfl (lv_at hl 0 rfl) ?_
  refine gt_X11_62 B hw dX11_guess_1 ?_
  refine lv_aload_n hx hb dX11_guess_4 rfl (lv_at hl 0 rfl) ?_
  refine gt_X11_65 B hw dX11_guess_5 ?_
  refine lv_iload_n hx hb dX11_guess_8 rfl (lv_at hl 1 rfl) ?_
  obtain ⟨g_1, hf⟩ := grd_e hf
  refine m_iald B hw (i := 19) rfl g_1 dX11_guess_9 ?_
  obtain ⟨g_2, hf⟩ := grd_e hf
  refine m_iald B hw (i := 18) rfl g_2 dX11_guess_10 ?_
  refine r_topn hf (fun x2_3 hf => ?_)
  refine lv_istore_n (lv' := [(2, .int x2_3), (0, .ref (X.2.2 0)), (1, .int p1)]) hx hb dX11_guess_11 rfl hl (by decide) rfl (fun ls hl => ?_)
  refine lv_aload_n hx hb dX11_guess_12 rfl (lv_at hl 1 rfl) ?_
  refine lv_iload_n hx hb dX11_guess_13 rfl (lv_at hl 2 rfl) ?_
  obtain ⟨r_5, h_4, hf⟩ := bd_e hf
  refine q_callVi (M' := M) (i := 0) (As := [.int p1]) (rest := []) B hw (c_X11_manySent l X fu p1 M r_5 h_4 _) cv_X11_377 (rc_11 B hw) rfl hl.1 rfl rfl ⟨Nat.le_of_ble_eq_true rfl, Nat.le_of_ble_eq_true rfl⟩ (Nat.le_of_ble_eq_true rfl) ⟨Nat.le_of_ble_eq_true rfl, Nat.le_of_ble_eq_true rfl⟩ dX11_guess_14 rfl (fun H locs hw => ?_)
  refine lv_istore_n (lv' := [(3, .int r_5), (2, .int x2_3), (0, .ref (X.2.2 0)), (1, .int p1)]) hx hb dX11_guess_17 rfl hl (by decide) rfl (fun ls hl => ?_)
  refine jn_e hf (fun kk => ∀ (x2_7 : Int32) (H : Heap) (locs : List Loc) (ls : Array Slot), HW LM X M s H locs → lv_has ls 4 [(2, .int x2_7)] → kk x2_7 = some rs → W p l e rm_X11_guess s m args below meth c H locs 0 0 Q (F0 m 32 ls [])) ?_ (fun k32_6 J32_6 hf => ?_)
  · intro x2_7 H locs ls hw hl hf
    refine lv_iload_n hx hb dX11_guess_32 rfl (lv_at hl 0 rfl) ?_
    refine lv_iconst (v := 1) hx hb dX11_guess_33 (by decide) ?_
    refine lv_icmp_ge (tgt := 41) hx hb dX11_guess_34 (by decide) (fun c_8 => ?_) (fun c_8 => ?_)
    · have hf := it_e hf c_8
      refine lv_iload_n hx hb dX11_guess_41 rfl (lv_at hl 0 rfl) ?_
      cases hf
      subst hQ
      exact q_iret B hr hlk hw rfl rfl dX11_guess_42
    · have hf := ie_e hf c_8
      refine lv_iconst (v := 1) hx hb dX11_guess_37 (by decide) ?_
      refine lv_goto (tgt := 42) hx hb dX11_guess_38 (by decide) ?_
      cases hf
      subst hQ
      exact q_iret B hr hlk hw rfl rfl dX11_guess_42
  have hL_18 : ∀ (n_18 : Nat) (x2_9 : Int32) (x3_10 : Int32) (H : Heap) (locs : List Loc) (ls : Array Slot), HW LM X M s H locs → lv_has ls 4 [(2, .int x2_9), (3, .int x3_10)] → f_X11_guess_L18 fu k32_6 n_18 x2_9 x3_10 = some rs → W p l e rm_X11_guess s m args below meth c H locs 0 0 Q (F0 m 18 ls []) := by
    intro n_18
    induction n_18 with
    | zero => intro x2_9 x3_10 H locs ls hw hl hf; exact no_none hf
    | succ n_18 ih_18 =>
      intro x2_9 x3_10 H locs ls hw hl hf
      rw [f_X11_guess_L18] at hf
      refine lv_iload_n hx hb dX11_guess_18 rfl (lv_at hl 1 rfl) ?_
      refine lv_if_le (tgt := 32) hx hb dX11_guess_19 (by decide) (fun c_11 => ?_) (fun c_11 => ?_)
      · have hf := it_e hf c_11
        exact J32_6 x2_9 _ _ _ hw (lv_sub hl [0] rfl) hf
      · have hf := ie_e hf c_11
        refine lv_iload_n hx hb dX11_guess_22 rfl (lv_at hl 0 rfl) ?_
        refine lv_iconst (v := 2) hx hb dX11_guess_23 (by decide) ?_
        refine lv_idiv hx hb dX11_guess_24 (by decide) ?_
        refine r_topn hf (fun x2_12 hf => ?_)
        refine lv_istore_n (lv' := [(2, .int x2_12), (3, .int x3_10)]) hx hb dX11_guess_25 rfl hl (by decide) rfl (fun ls hl => ?_)
        refine r_iinc (v := (x3_10 + (-1))) hx hb dX11_guess_26 hl (k := 1) rfl rfl (by decide) hf (fun x3_13 ls hl hf => ?_)
        have hl : lv_has ls 4 [(3, .int x3_13), (2, .int x2_12)] := hl
        refine lv_goto (tgt := 18) hx hb dX11_guess_29 (by decide) ?_
        exact ih_18 x2_12 x3_13 _ _ _ hw (lv_sub hl [1, 0] rfl) hf
  exact hL_18 fu x2_3 r_5 _ _ _ hw (lv_sub hl [1, 0] rfl) hf
abbrev rm_X11_linkOf : Room := { frames := 0, cells := 0, slots := 0, locals := 0 }
set_option maxRecDepth 100000 in
set_option maxHeartbeats 4000000 in
theorem c_X11_linkOf (l : Launch) (X : XT) (fu : Nat) (p1 : Int32) (M : Mem)  (rs : Int32) (hf : f_X11_linkOf fu p1 M = some rs) (sz : Nat) : Met l yX11_linkOf (wbig yX11_linkOf cX11_linkOf 5 (some .int)) rm_X11_linkOf (va_Pc [.ref (X.2.2 0), .int p1] (PW LM X M sz)) (QI LM X M rs sz) 0 0 (AX LM X sz) := by
  refine met_go (L := LM) (M := M) (by decide +kernel) (Nat.le_of_ble_eq_true rfl) ?_
  intro p e s m args below meth c hsz B hr hlk hw ls hl
  subst hsz
  have hx := B.hx
  have hb := B.hb
  have hl : lv_has ls 5 [(0, .ref (X.2.2 0)), (1, .int p1)] := hl
  generalize hQ : MQ below _ args s 0 0 (AX LM X s.heap.size) = Q
  unfold f_X11_linkOf at hf
  refine lv_iconst (v := (-1)) hx hb dX11_linkOf_0 (by decide) ?_
  refine lv_istore_n (lv' := [(2, .int (-1)), (0, .ref (X.2.2 0)), (1, .int p1)]) hx hb dX11_linkOf_1 rfl hl (by decide) rfl (fun ls hl => ?_)
  refine lv_aload_n hx hb dX11_linkOf_2 rfl (lv_at hl 1 rfl) ?_
  refine gt_X11_308 B hw dX11_linkOf_3 ?_
  refine lv_iconst (v := 1) hx hb dX11_linkOf_6 (by decide) ?_
  refine lv_isub hx hb dX11_linkOf_7 ?_
  refine r_topn hf (fun x3_1 hf => ?_)
  refine lv_istore_n (lv' := [(3, .int x3_1), (2, .int (-1)), (0, .ref (X.2.2 0)), (1, .int p1)]) hx hb dX11_linkOf_8 rfl hl (by decide) rfl (fun ls hl => ?_)
  have hL_9 : ∀ (n_9 : Nat) (x2_2 : Int32) (x3_3 : Int32) (H : Heap) (locs : List Loc) (ls : Array Slot), HW LM X M s H locs → lv_has ls 5 [(0, .ref (X.2.2 0)), (1, .int p1), (2, .int x2_2), (3, .int x3_3)] → f_X11_linkOf_L9 fu p1 M n_9 x2_2 x3_3 = some rs → W p l e rm_X11_linkOf s m args below meth c H locs 0 0 Q (F0 m 9 ls []) := by
    intro n_9
    induction n_9 with
    | zero => intro x2_2 x3_3 H locs ls hw hl hf; exact no_none hf
    | succ n_9 ih_9 =>
      intro x2_2 x3_3 H locs ls hw hl hf
      rw [f_X11_linkOf_L9] at hf
      refine lv_iload_n hx hb dX11_linkOf_9 rfl (lv_at hl 3 rfl) ?_
      refine lv_if_lt (tgt := 85) hx hb dX11_linkOf_10 (by decide) (fun c_4 => ?_) (fun c_4 => ?_)
      · have hf := it_e hf c_4
        refine lv_iload_n hx hb dX11_linkOf_85 rfl (lv_at hl 2 rfl) ?_
        cases hf
        subst hQ
        exact q_iret B hr hlk hw rfl rfl dX11_linkOf_86
      · have hf := ie_e hf c_4
        refine lv_aload_n hx hb dX11_linkOf_13 rfl (lv_at hl 0 rfl) ?_
        refine gt_X11_68 B hw dX11_linkOf_14 ?_
        refine lv_iload_n hx hb dX11_linkOf_17 rfl (lv_at hl 3 rfl) ?_
        obtain ⟨g_5, hf⟩ := grd_e hf
        refine m_iald B hw (i := 20) rfl g_5 dX11_linkOf_18 ?_
        refine lv_iload_n hx hb dX11_linkOf_19 rfl (lv_at hl 1 rfl) ?_
        refine jn_e hf (fun kk => ∀ (v_7 : Int32) (H : Heap) (locs : List Loc) (ls : Array Slot), HW LM X M s H locs → lv_has ls 5 [(0, .ref (X.2.2 0)), (1, .int p1), (2, .int x2_2), (3, .int x3_3)] → kk v_7 = some rs → W p l e rm_X11_linkOf s m args below meth c H locs 0 0 Q (F0 m 66 ls [.int v_7])) ?_ (fun k66_6 J66_6 hf => ?_)
        · intro v_7 H locs ls hw hl hf
          refine lv_istore (lv' := [(4, .int v_7), (0, .ref (X.2.2 0)), (1, .int p1), (2, .int x2_2), (3, .int x3_3)]) hx hb dX11_linkOf_66 hl (by decide) rfl (fun ls hl => ?_)
          refine lv_iload hx hb dX11_linkOf_68 (lv_at hl 0 rfl) ?_
          refine lv_if_eq (tgt := 77) hx hb dX11_linkOf_70 (by decide) (fun c_8 => ?_) (fun c_8 => ?_)
          · have hf := it_e hf c_8
            refine lv_iload_n hx hb dX11_linkOf_77 rfl (lv_at hl 3 rfl) ?_
            refine lv_istore_n (lv' := [(2, .int x2_2), (4, .int v_7), (0, .ref (X.2.2 0)), (1, .int p1), (3, .int x3_3)]) hx hb dX11_linkOf_78 rfl hl (by decide) rfl (fun ls hl => ?_)
            refine r_iinc (v := (x3_3 + (-1))) hx hb dX11_linkOf_79 hl (k := 4) rfl rfl (by decide) hf (fun x3_9 ls hl hf => ?_)
            have hl : lv_has ls 5 [(3, .int x3_9), (2, .int x2_2), (4, .int v_7), (0, .ref (X.2.2 0)), (1, .int p1)] := hl
            refine lv_goto (tgt := 9) hx hb dX11_linkOf_82 (by decide) ?_
            exact ih_9 x2_2 x3_9 _ _ _ hw (lv_sub hl [3, 4, 1, 0] rfl) hf
          · have hf := ie_e hf c_8
            refine lv_iload_n hx hb dX11_linkOf_73 rfl (lv_at hl 4 rfl) ?_
            refine lv_goto (tgt := 78) hx hb dX11_linkOf_74 (by decide) ?_
            refine lv_istore_n (lv' := [(2, .int x3_3), (4, .int v_7), (0, .ref (X.2.2 0)), (1, .int p1), (3, .int x3_3)]) hx hb dX11_linkOf_78 rfl hl (by decide) rfl (fun ls hl => ?_)
            refine r_iinc (v := (x3_3 + (-1))) hx hb dX11_linkOf_79 hl (k := 4) rfl rfl (by decide) hf (fun x3_10 ls hl hf => ?_)
            have hl : lv_has ls 5 [(3, .int x3_10), (2, .int x3_3), (4, .int v_7), (0, .ref (X.2.2 0)), (1, .int p1)] := hl
            refine lv_goto (tgt := 9) hx hb dX11_linkOf_82 (by decide) ?_
            exact ih_9 x3_3 x3_10 _ _ _ hw (lv_sub hl [3, 4, 1, 0] rfl) hf
        refine jn_e hf (fun kk => ∀ (_ : Unit) (H : Heap) (locs : List Loc) (ls : Array Slot), HW LM X M s H locs → lv_has ls 5 [(0, .ref (X.2.2 0)), (1, .int p1), (2, .int x2_2), (3, .int x3_3)] → kk () = some rs → W p l e rm_X11_linkOf s m args below meth c H locs 0 0 Q (F0 m 61 ls [])) ?_ (fun k61_11 J61_11 hf => ?_)
        · intro _ H locs ls hw hl hf
          refine lv_iconst (v := 1) hx hb dX11_linkOf_61 (by decide) ?_
          refine lv_goto (tgt := 66) hx hb dX11_linkOf_62 (by decide) ?_
          exact J66_6 1 _ _ _ hw (lv_sub hl [0, 1, 2, 3] rfl) hf
        refine jn_e hf (fun kk => ∀ (_ : Unit) (H : Heap) (locs : List Loc) (ls : Array Slot), HW LM X M s H locs → lv_has ls 5 [(0, .ref (X.2.2 0)), (1, .int p1), (2, .int x2_2), (3, .int x3_3)] → kk () = some rs → W p l e rm_X11_linkOf s m args below meth c H locs 0 0 Q (F0 m 37 ls [])) ?_ (fun k37_12 J37_12 hf => ?_)
        · intro _ H locs ls hw hl hf
          refine lv_aload_n hx hb dX11_linkOf_37 rfl (lv_at hl 0 rfl) ?_
          refine gt_X11_74 B hw dX11_linkOf_38 ?_
          refine lv_iload_n hx hb dX11_linkOf_41 rfl (lv_at hl 3 rfl) ?_
          refine m_iald B hw (i := 22) rfl g_5 dX11_linkOf_42 ?_
          refine lv_iload_n hx hb dX11_linkOf_43 rfl (lv_at hl 1 rfl) ?_
          refine jn_e hf (fun kk => ∀ (_ : Unit) (H : Heap) (locs : List Loc) (ls : Array Slot), HW LM X M s H locs → lv_has ls 5 [(0, .ref (X.2.2 0)), (1, .int p1), (2, .int x2_2), (3, .int x3_3)] → kk () = some rs → W p l e rm_X11_linkOf s m args below meth c H locs 0 0 Q (F0 m 65 ls [])) ?_ (fun k65_13 J65_13 hf => ?_)
          · intro _ H locs ls hw hl hf
            refine lv_iconst (v := 0) hx hb dX11_linkOf_65 (by decide) ?_
            exact J66_6 0 _ _ _ hw (lv_sub hl [0, 1, 2, 3] rfl) hf
          refine lv_icmp_ne (tgt := 65) hx hb dX11_linkOf_44 (by decide) (fun c_14 => ?_) (fun c_14 => ?_)
          · have hf := ie_e hf c_14
            exact J65_13 () _ _ _ hw (lv_sub hl [0, 1, 2, 3] rfl) hf
          · have hf := it_e hf c_14
            refine lv_aload_n hx hb dX11_linkOf_47 rfl (lv_at hl 0 rfl) ?_
            refine gt_X11_138 B hw dX11_linkOf_48 ?_
            refine lv_aload_n hx hb dX11_linkOf_51 rfl (lv_at hl 0 rfl) ?_
            refine gt_X11_68 B hw dX11_linkOf_52 ?_
            refine lv_iload_n hx hb dX11_linkOf_55 rfl (lv_at hl 3 rfl) ?_
            refine m_iald B hw (i := 20) rfl g_5 dX11_linkOf_56 ?_
            obtain ⟨g_15, hf⟩ := grd_e hf
            refine m_zald B hw (i := 42) rfl g_15 dX11_linkOf_57 ?_
            refine lv_if_eq (tgt := 65) hx hb dX11_linkOf_58 (by decide) (fun c_16 => ?_) (fun c_16 => ?_)
            · have hf := it_e hf c_16
              exact J65_13 () _ _ _ hw (lv_sub hl [0, 1, 2, 3] rfl) hf
            · have hf := ie_e hf c_16
              exact J61_11 () _ _ _ hw (lv_sub hl [0, 1, 2, 3] rfl) hf
        refine lv_icmp_ne (tgt := 37) hx hb dX11_linkOf_20 (by decide) (fun c_17 => ?_) (fun c_17 => ?_)
        · have hf := ie_e hf c_17
          exact J37_12 () _ _ _ hw (lv_sub hl [0, 1, 2, 3] rfl) hf
        · have hf := it_e hf c_17
          refine lv_aload_n hx hb dX11_linkOf_23 rfl (lv_at hl 0 rfl) ?_
          refine gt_X11_138 B hw dX11_linkOf_24 ?_
          refine lv_aload_n hx hb dX11_linkOf_27 rfl (lv_at hl 0 rfl) ?_
          refine gt_X11_74 B hw dX11_linkOf_28 ?_
          refine lv_iload_n hx hb dX11_linkOf_31 rfl (lv_at hl 3 rfl) ?_
          refine m_iald B hw (i := 22) rfl g_5 dX11_linkOf_32 ?_
          obtain ⟨g_18, hf⟩ := grd_e hf
          refine m_zald B hw (i := 42) rfl g_18 dX11_linkOf_33 ?_
          refine lv_if_ne (tgt := 61) hx hb dX11_linkOf_34 (by decide) (fun c_19 => ?_) (fun c_19 => ?_)
          · have hf := ie_e hf c_19
            exact J61_11 () _ _ _ hw (lv_sub hl [0, 1, 2, 3] rfl) hf
          · have hf := it_e hf c_19
            exact J37_12 () _ _ _ hw (lv_sub hl [0, 1, 2, 3] rfl) hf
  exact hL_9 fu (-1) x3_1 _ _ _ hw (lv_sub hl [2, 3, 1, 0] rfl) hf
abbrev rm_X11_nextSeat : Room := { frames := 4, cells := 0, slots := 0, locals := 90 }
set_option maxRecDepth 100000 in
set_option maxHeartbeats 4000000 in
theorem c_X11_nextSeat (l : Launch) (X : XT) (fu : Nat) (M : Mem)  (rs : Int32) (hf : f_X11_nextSeat fu M = some rs) (sz : Nat) : Met l yX11_nextSeat (wbig yX11_nextSeat cX11_nextSeat 6 (some .int)) rm_X11_nextSeat (va_Pc [.ref (X.2.2 0)] (PW LM X M sz)) (QI LM X M rs sz) 0 0 (AX LM X sz) := by
  refine met_go (L := LM) (M := M) (by decide +kernel) (Nat.le_of_ble_eq_true rfl) ?_
  intro p e s m args below meth c hsz B hr hlk hw ls hl
  subst hsz
  have hx := B.hx
  have hb := B.hb
  have hl : lv_has ls 6 [(0, .ref (X.2.2 0))] := hl
  generalize hQ : MQ below _ args s 0 0 (AX LM X s.heap.size) = Q
  unfold f_X11_nextSeat at hf
  refine lv_iconst (v := (-1)) hx hb dX11_nextSeat_0 (by decide) ?_
  refine lv_istore_n (lv' := [(1, .int (-1)), (0, .ref (X.2.2 0))]) hx hb dX11_nextSeat_1 rfl hl (by decide) rfl (fun ls hl => ?_)
  refine lv_iconst (v := 0) hx hb dX11_nextSeat_2 (by decide) ?_
  refine lv_istore_n (lv' := [(2, .int 0), (1, .int (-1)), (0, .ref (X.2.2 0))]) hx hb dX11_nextSeat_3 rfl hl (by decide) rfl (fun ls hl => ?_)
  refine lv_iconst (v := 0) hx hb dX11_nextSeat_4 (by decide) ?_
  refine lv_istore_n (lv' := [(3, .int 0), (2, .int 0), (1, .int (-1)), (0, .ref (X.2.2 0))]) hx hb dX11_nextSeat_5 rfl hl (by decide) rfl (fun ls hl => ?_)
  have hL_6 : ∀ (n_6 : Nat) (x1_1 : Int32) (x2_2 : Int32) (x3_3 : Int32) (H : Heap) (locs : List Loc) (ls : Array Slot), HW LM X M s H locs → lv_has ls 6 [(0, .ref (X.2.2 0)), (1, .int x1_1), (2, .int x2_2), (3, .int x3_3)] → f_X11_nextSeat_L6 fu M n_6 x1_1 x2_2 x3_3 = some rs → W p l e rm_X11_nextSeat s m args below meth c H locs 0 0 Q (F0 m 6 ls []) := by
    intro n_6
    induction n_6 with
    | zero => intro x1_1 x2_2 x3_3 H locs ls hw hl hf; exact no_none hf
    | succ n_6 ih_6 =>
      intro x1_1 x2_2 x3_3 H locs ls hw hl hf
      rw [f_X11_nextSeat_L6] at hf
      refine lv_iload_n hx hb dX11_nextSeat_6 rfl (lv_at hl 3 rfl) ?_
      refine lv_aload_n hx hb dX11_nextSeat_7 rfl (lv_at hl 0 rfl) ?_
      refine gt_X11_299 B hw dX11_nextSeat_8 ?_
      refine lv_icmp_ge (tgt := 111) hx hb dX11_nextSeat_11 (by decide) (fun c_4 => ?_) (fun c_4 => ?_)
      · have hf := it_e hf c_4
        refine lv_iload_n hx hb dX11_nextSeat_111 rfl (lv_at hl 1 rfl) ?_
        cases hf
        subst hQ
        exact q_iret B hr hlk hw rfl rfl dX11_nextSeat_112
      · have hf := ie_e hf c_4
        refine lv_aload_n hx hb dX11_nextSeat_14 rfl (lv_at hl 0 rfl) ?_
        refine gt_X11_138 B hw dX11_nextSeat_15 ?_
        refine lv_iload_n hx hb dX11_nextSeat_18 rfl (lv_at hl 3 rfl) ?_
        obtain ⟨g_5, hf⟩ := grd_e hf
        refine m_zald B hw (i := 42) rfl g_5 dX11_nextSeat_19 ?_
        refine lv_if_ne (tgt := 105) hx hb dX11_nextSeat_20 (by decide) (fun c_6 => ?_) (fun c_6 => ?_)
        · have hf := ie_e hf c_6
          refine r_iinc (v := (x3_3 + 1)) hx hb dX11_nextSeat_105 hl (k := 3) rfl rfl (by decide) hf (fun x3_7 ls hl hf => ?_)
          have hl : lv_has ls 6 [(3, .int x3_7), (0, .ref (X.2.2 0)), (1, .int x1_1), (2, .int x2_2)] := hl
          refine lv_goto (tgt := 6) hx hb dX11_nextSeat_108 (by decide) ?_
          exact ih_6 x1_1 x2_2 x3_7 _ _ _ hw (lv_sub hl [1, 2, 3, 0] rfl) hf
        · have hf := it_e hf c_6
          refine lv_aload_n hx hb dX11_nextSeat_23 rfl (lv_at hl 0 rfl) ?_
          refine lv_iload_n hx hb dX11_nextSeat_24 rfl (lv_at hl 3 rfl) ?_
          obtain ⟨r_9, h_8, hf⟩ := bd_e hf
          refine q_callVi (M' := M) (i := 0) (As := [.int x3_3]) (rest := []) B hw (c_X11_linkOf l X fu x3_3 M r_9 h_8 _) cv_X11_390 (rc_11 B hw) rfl hl.1 rfl rfl ⟨Nat.le_of_ble_eq_true rfl, Nat.le_of_ble_eq_true rfl⟩ (Nat.le_of_ble_eq_true rfl) ⟨Nat.le_of_ble_eq_true rfl, Nat.le_of_ble_eq_true rfl⟩ dX11_nextSeat_25 rfl (fun H locs hw => ?_)
          refine lv_iconst (v := (-1)) hx hb dX11_nextSeat_28 (by decide) ?_
          refine nmv_e hf (fun kk => ∀ (H : Heap) (locs : List Loc), HW LM X M s H locs → W p l e rm_X11_nextSeat s m args below meth c H locs 0 0 Q (F0 m 37 ls [.int kk])) (fun J => ?_) (fun v_11 hf H locs hw => ?_)
          · refine lv_icmp_eq (tgt := 36) hx hb dX11_nextSeat_29 (by decide) (fun c_10 => ?_) (fun c_10 => ?_)
            · rw [if_pos c_10] at J
              refine lv_iconst (v := 0) hx hb dX11_nextSeat_36 (by decide) ?_
              exact J _ _ hw
            · rw [if_neg c_10] at J
              refine lv_iconst (v := 1) hx hb dX11_nextSeat_32 (by decide) ?_
              refine lv_goto (tgt := 37) hx hb dX11_nextSeat_33 (by decide) ?_
              exact J _ _ hw
          · refine lv_istore (lv' := [(4, .int v_11), (0, .ref (X.2.2 0)), (1, .int x1_1), (2, .int x2_2), (3, .int x3_3)]) hx hb dX11_nextSeat_37 hl (by decide) rfl (fun ls hl => ?_)
            refine lv_iload_n hx hb dX11_nextSeat_39 rfl (lv_at hl 2 rfl) ?_
            refine lv_iconst (v := (-1)) hx hb dX11_nextSeat_40 (by decide) ?_
            refine jn_e hf (fun kk => ∀ (v_13 : Int32) (H : Heap) (locs : List Loc) (ls : Array Slot), HW LM X M s H locs → lv_has ls 6 [(0, .ref (X.2.2 0)), (1, .int x1_1), (2, .int x2_2), (3, .int x3_3), (4, .int v_11)] → kk v_13 = some rs → W p l e rm_X11_nextSeat s m args below meth c H locs 0 0 Q (F0 m 77 ls [.int v_13])) ?_ (fun k77_12 J77_12 hf => ?_)
            · intro v_13 H locs ls hw hl hf
              refine lv_istore (lv' := [(5, .int v_13), (0, .ref (X.2.2 0)), (1, .int x1_1), (2, .int x2_2), (3, .int x3_3), (4, .int v_11)]) hx hb dX11_nextSeat_77 hl (by decide) rfl (fun ls hl => ?_)
              refine lv_iload hx hb dX11_nextSeat_79 (lv_at hl 0 rfl) ?_
              refine nmv_e hf (fun kk => ∀ (H : Heap) (locs : List Loc), HW LM X M s H locs → W p l e rm_X11_nextSeat s m args below meth c H locs 0 0 Q (F0 m 89 ls [.int kk])) (fun J => ?_) (fun v_15 hf H locs hw => ?_)
              · refine lv_if_eq (tgt := 88) hx hb dX11_nextSeat_81 (by decide) (fun c_14 => ?_) (fun c_14 => ?_)
                · rw [if_pos c_14] at J
                  refine lv_iload_n hx hb dX11_nextSeat_88 rfl (lv_at hl 2 rfl) ?_
                  exact J _ _ hw
                · rw [if_neg c_14] at J
                  refine lv_iload_n hx hb dX11_nextSeat_84 rfl (lv_at hl 4 rfl) ?_
                  refine lv_goto (tgt := 89) hx hb dX11_nextSeat_85 (by decide) ?_
                  exact J _ _ hw
              · refine lv_istore_n (lv' := [(1, .int v_15), (5, .int v_13), (0, .ref (X.2.2 0)), (2, .int x2_2), (3, .int x3_3), (4, .int v_11)]) hx hb dX11_nextSeat_89 rfl hl (by decide) rfl (fun ls hl => ?_)
                refine lv_iload_n hx hb dX11_nextSeat_90 rfl (lv_at hl 3 rfl) ?_
                refine nmv_e hf (fun kk => ∀ (H : Heap) (locs : List Loc), HW LM X M s H locs → W p l e rm_X11_nextSeat s m args below meth c H locs 0 0 Q (F0 m 104 ls [.int kk])) (fun J => ?_) (fun v_18 hf H locs hw => ?_)
                · refine lv_if_ne (tgt := 99) hx hb dX11_nextSeat_91 (by decide) (fun c_16 => ?_) (fun c_16 => ?_)
                  · rw [if_neg c_16] at J
                    refine lv_iconst (v := 1) hx hb dX11_nextSeat_99 (by decide) ?_
                    refine lv_goto (tgt := 104) hx hb dX11_nextSeat_100 (by decide) ?_
                    exact J _ _ hw
                  · rw [if_pos c_16] at J
                    refine lv_iload hx hb dX11_nextSeat_94 (lv_at hl 5 rfl) ?_
                    refine lv_if_eq (tgt := 103) hx hb dX11_nextSeat_96 (by decide) (fun c_17 => ?_) (fun c_17 => ?_)
                    · rw [if_pos c_17] at J
                      refine lv_iconst (v := 0) hx hb dX11_nextSeat_103 (by decide) ?_
                      exact J _ _ hw
                    · rw [if_neg c_17] at J
                      refine lv_iconst (v := 1) hx hb dX11_nextSeat_99 (by decide) ?_
                      refine lv_goto (tgt := 104) hx hb dX11_nextSeat_100 (by decide) ?_
                      exact J _ _ hw
                · refine lv_istore_n (lv' := [(2, .int v_18), (1, .int v_15), (5, .int v_13), (0, .ref (X.2.2 0)), (3, .int x3_3), (4, .int v_11)]) hx hb dX11_nextSeat_104 rfl hl (by decide) rfl (fun ls hl => ?_)
                  refine r_iinc (v := (x3_3 + 1)) hx hb dX11_nextSeat_105 hl (k := 4) rfl rfl (by decide) hf (fun x3_19 ls hl hf => ?_)
                  have hl : lv_has ls 6 [(3, .int x3_19), (2, .int v_18), (1, .int v_15), (5, .int v_13), (0, .ref (X.2.2 0)), (4, .int v_11)] := hl
                  refine lv_goto (tgt := 6) hx hb dX11_nextSeat_108 (by decide) ?_
                  exact ih_6 v_15 v_18 x3_19 _ _ _ hw (lv_sub hl [4, 2, 1, 0] rfl) hf
            refine jn_e hf (fun kk => ∀ (_ : Unit) (H : Heap) (locs : List Loc) (ls : Array Slot), HW LM X M s H locs → lv_has ls 6 [(0, .ref (X.2.2 0)), (1, .int x1_1), (2, .int x2_2), (3, .int x3_3), (4, .int v_11)] → kk () = some rs → W p l e rm_X11_nextSeat s m args below meth c H locs 0 0 Q (F0 m 72 ls [])) ?_ (fun k72_20 J72_20 hf => ?_)
            · intro _ H locs ls hw hl hf
              refine lv_iconst (v := 1) hx hb dX11_nextSeat_72 (by decide) ?_
              refine lv_goto (tgt := 77) hx hb dX11_nextSeat_73 (by decide) ?_
              exact J77_12 1 _ _ _ hw (lv_sub hl [0, 1, 2, 3, 4] rfl) hf
            refine lv_icmp_eq (tgt := 72) hx hb dX11_nextSeat_41 (by decide) (fun c_21 => ?_) (fun c_21 => ?_)
            · have hf := it_e hf c_21
              exact J72_20 () _ _ _ hw (lv_sub hl [1, 2, 3, 4, 0] rfl) hf
            · have hf := ie_e hf c_21
              refine lv_iload hx hb dX11_nextSeat_44 (lv_at hl 0 rfl) ?_
              refine jn_e hf (fun kk => ∀ (_ : Unit) (H : Heap) (locs : List Loc) (ls : Array Slot), HW LM X M s H locs → lv_has ls 6 [(0, .ref (X.2.2 0)), (1, .int x1_1), (2, .int x2_2), (3, .int x3_3), (4, .int v_11)] → kk () = some rs → W p l e rm_X11_nextSeat s m args below meth c H locs 0 0 Q (F0 m 53 ls [])) ?_ (fun k53_22 J53_22 hf => ?_)
              · intro _ H locs ls hw hl hf
                refine lv_iload hx hb dX11_nextSeat_53 (lv_at hl 4 rfl) ?_
                refine lv_iload_n hx hb dX11_nextSeat_55 rfl (lv_at hl 2 rfl) ?_
                refine jn_e hf (fun kk => ∀ (_ : Unit) (H : Heap) (locs : List Loc) (ls : Array Slot), HW LM X M s H locs → lv_has ls 6 [(0, .ref (X.2.2 0)), (1, .int x1_1), (2, .int x2_2), (3, .int x3_3), (4, .int v_11)] → kk () = some rs → W p l e rm_X11_nextSeat s m args below meth c H locs 0 0 Q (F0 m 76 ls [])) ?_ (fun k76_23 J76_23 hf => ?_)
                · intro _ H locs ls hw hl hf
                  refine lv_iconst (v := 0) hx hb dX11_nextSeat_76 (by decide) ?_
                  exact J77_12 0 _ _ _ hw (lv_sub hl [0, 1, 2, 3, 4] rfl) hf
                refine lv_icmp_ne (tgt := 76) hx hb dX11_nextSeat_56 (by decide) (fun c_24 => ?_) (fun c_24 => ?_)
                · have hf := ie_e hf c_24
                  exact J76_23 () _ _ _ hw (lv_sub hl [0, 1, 2, 3, 4] rfl) hf
                · have hf := it_e hf c_24
                  refine lv_aload_n hx hb dX11_nextSeat_59 rfl (lv_at hl 0 rfl) ?_
                  refine lv_iload_n hx hb dX11_nextSeat_60 rfl (lv_at hl 3 rfl) ?_
                  obtain ⟨r_26, h_25, hf⟩ := bd_e hf
                  refine q_callVi (M' := M) (i := 0) (As := [.int x3_3]) (rest := []) B hw (c_X11_guess l X fu x3_3 M r_26 h_25 _) cv_X11_393 (rc_11 B hw) rfl hl.1 rfl rfl ⟨Nat.le_of_ble_eq_true rfl, Nat.le_of_ble_eq_true rfl⟩ (Nat.le_of_ble_eq_true rfl) ⟨Nat.le_of_ble_eq_true rfl, Nat.le_of_ble_eq_true rfl⟩ dX11_nextSeat_61 rfl (fun H locs hw => ?_)
                  refine lv_aload_n hx hb dX11_nextSeat_64 rfl (lv_at hl 0 rfl) ?_
                  refine lv_iload_n hx hb dX11_nextSeat_65 rfl (lv_at hl 1 rfl) ?_
                  obtain ⟨r_28, h_27, hf⟩ := bd_e hf
                  refine q_callVi (M' := M) (i := 0) (As := [.int x1_1]) (rest := [.int r_26]) B hw (c_X11_guess l X fu x1_1 M r_28 h_27 _) cv_X11_393 (rc_11 B hw) rfl hl.1 rfl rfl ⟨Nat.le_of_ble_eq_true rfl, Nat.le_of_ble_eq_true rfl⟩ (Nat.le_of_ble_eq_true rfl) ⟨Nat.le_of_ble_eq_true rfl, Nat.le_of_ble_eq_true rfl⟩ dX11_nextSeat_66 rfl (fun H locs hw => ?_)
                  refine lv_icmp_ge (tgt := 76) hx hb dX11_nextSeat_69 (by decide) (fun c_29 => ?_) (fun c_29 => ?_)
                  · have hf := it_e hf c_29
                    exact J76_23 () _ _ _ hw (lv_sub hl [0, 1, 2, 3, 4] rfl) hf
                  · have hf := ie_e hf c_29
                    exact J72_20 () _ _ _ hw (lv_sub hl [0, 1, 2, 3, 4] rfl) hf
              refine lv_if_eq (tgt := 53) hx hb dX11_nextSeat_46 (by decide) (fun c_30 => ?_) (fun c_30 => ?_)
              · have hf := it_e hf c_30
                exact J53_22 () _ _ _ hw (lv_sub hl [1, 2, 3, 4, 0] rfl) hf
              · have hf := ie_e hf c_30
                refine lv_iload_n hx hb dX11_nextSeat_49 rfl (lv_at hl 3 rfl) ?_
                refine lv_if_eq (tgt := 72) hx hb dX11_nextSeat_50 (by decide) (fun c_31 => ?_) (fun c_31 => ?_)
                · have hf := it_e hf c_31
                  exact J72_20 () _ _ _ hw (lv_sub hl [1, 2, 3, 4, 0] rfl) hf
                · have hf := ie_e hf c_31
                  exact J53_22 () _ _ _ hw (lv_sub hl [1, 2, 3, 4, 0] rfl) hf
  exact hL_6 fu (-1) 0 0 _ _ _ hw (lv_sub hl [3, 2, 1, 0] rfl) hf
abbrev rm_X11_laysKeys : Room := { frames := 4, cells := 0, slots := 0, locals := 89 }
set_option maxRecDepth 100000 in
set_option maxHeartbeats 4000000 in
theorem c_X11_laysKeys (l : Launch) (X : XT) (fu : Nat) (p1 : Int32) (p2 : Int32) (M : Mem)  (rs : Mem) (hf : f_X11_laysKeys fu p1 p2 M = some rs) (sz : Nat) : Met l yX11_laysKeys (wbig yX11_laysKeys cX11_laysKeys 6 none) rm_X11_laysKeys (va_Pc [.ref (X.2.2 0), .int p1, .int p2] (PW LM X M sz)) (QV LM X rs sz) 0 0 (AX LM X sz) := by
  refine met_go (L := LM) (M := M) (by decide +kernel) (Nat.le_of_ble_eq_true rfl) ?_
  intro p e s m args below meth c hsz B hr hlk hw ls hl
  subst hsz
  have hx := B.hx
  have hb := B.hb
  have hl : lv_has ls 6 [(0, .ref (X.2.2 0)), (1, .int p1), (2, .int p2)] := hl
  generalize hQ : MQ below _ args s 0 0 (AX LM X s.heap.size) = Q
  unfold f_X11_laysKeys at hf
  refine lv_aload_n hx hb dX11_laysKeys_0 rfl (lv_at hl 0 rfl) ?_
  refine lv_iconst (v := 0) hx hb dX11_laysKeys_1 (by decide) ?_
  refine pt_X11_396 B hw dX11_laysKeys_2 hf (fun M_1 H locs hw hf => ?_)
  refine lv_iconst (v := 0) hx hb dX11_laysKeys_5 (by decide) ?_
  refine lv_istore_n (lv' := [(3, .int 0), (0, .ref (X.2.2 0)), (1, .int p1), (2, .int p2)]) hx hb dX11_laysKeys_6 rfl hl (by decide) rfl (fun ls hl => ?_)
  have hL_7 : ∀ (n_7 : Nat) (x3_2 : Int32) (M_3 : Mem) (H : Heap) (locs : List Loc) (ls : Array Slot), HW LM X M_3 s H locs → lv_has ls 6 [(0, .ref (X.2.2 0)), (1, .int p1), (2, .int p2), (3, .int x3_2)] → f_X11_laysKeys_L7 fu p1 p2 n_7 x3_2 M_3 = some rs → W p l e rm_X11_laysKeys s m args below meth c H locs 0 0 Q (F0 m 7 ls []) := by
    intro n_7
    induction n_7 with
    | zero => intro x3_2 M_3 H locs ls hw hl hf; exact no_none hf
    | succ n_7 ih_7 =>
      intro x3_2 M_3 H locs ls hw hl hf
      rw [f_X11_laysKeys_L7] at hf
      refine lv_iload_n hx hb dX11_laysKeys_7 rfl (lv_at hl 3 rfl) ?_
      refine lv_aload_n hx hb dX11_laysKeys_8 rfl (lv_at hl 0 rfl) ?_
      refine gt_X11_141 B hw dX11_laysKeys_9 ?_
      refine lv_iload_n hx hb dX11_laysKeys_12 rfl (lv_at hl 1 rfl) ?_
      obtain ⟨g_4, hf⟩ := grd_e hf
      refine m_iald B hw (i := 43) rfl g_4 dX11_laysKeys_13 ?_
      refine lv_icmp_ge (tgt := 137) hx hb dX11_laysKeys_14 (by decide) (fun c_5 => ?_) (fun c_5 => ?_)
      · have hf := it_e hf c_5
        cases hf
        subst hQ
        exact q_vret B hr hlk hw rfl dX11_laysKeys_137
      · have hf := ie_e hf c_5
        refine lv_aload_n hx hb dX11_laysKeys_17 rfl (lv_at hl 0 rfl) ?_
        refine gt_X11_147 B hw dX11_laysKeys_18 ?_
        refine lv_iconst (v := 4) hx hb dX11_laysKeys_21 (by decide) ?_
        refine lv_bipush (v := 12) hx hb dX11_laysKeys_22 (by decide) ?_
        refine lv_iload_n hx hb dX11_laysKeys_24 rfl (lv_at hl 1 rfl) ?_
        refine lv_imul hx hb dX11_laysKeys_25 ?_
        refine lv_iload_n hx hb dX11_laysKeys_26 rfl (lv_at hl 3 rfl) ?_
        refine lv_iadd hx hb dX11_laysKeys_27 ?_
        refine lv_imul hx hb dX11_laysKeys_28 ?_
        refine lv_iload_n hx hb dX11_laysKeys_29 rfl (lv_at hl 2 rfl) ?_
        refine lv_iadd hx hb dX11_laysKeys_30 ?_
        obtain ⟨g_6, hf⟩ := grd_e hf
        refine m_iald B hw (i := 45) rfl g_6 dX11_laysKeys_31 ?_
        refine r_topn hf (fun x4_7 hf => ?_)
        refine lv_istore (lv' := [(4, .int x4_7), (0, .ref (X.2.2 0)), (1, .int p1), (2, .int p2), (3, .int x3_2)]) hx hb dX11_laysKeys_32 hl (by decide) rfl (fun ls hl => ?_)
        refine lv_iload hx hb dX11_laysKeys_34 (lv_at hl 0 rfl) ?_
        refine q_callSi (M' := M_3) (As := [.int x4_7]) (rest := []) B hw (c_X11_isNumber l X x4_7 _ rfl M_3 _) cs_X11_228 rfl hl.1 rfl rfl ⟨Nat.le_of_ble_eq_true rfl, Nat.le_of_ble_eq_true rfl⟩ (Nat.le_of_ble_eq_true rfl) ⟨Nat.le_of_ble_eq_true rfl, Nat.le_of_ble_eq_true rfl⟩ dX11_laysKeys_36 rfl (fun H locs hw => ?_)
        refine lv_if_eq (tgt := 131) hx hb dX11_laysKeys_39 (by decide) (fun c_8 => ?_) (fun c_8 => ?_)
        · have hf := it_e hf c_8
          refine r_iinc (v := (x3_2 + 1)) hx hb dX11_laysKeys_131 hl (k := 4) rfl rfl (by decide) hf (fun x3_9 ls hl hf => ?_)
          have hl : lv_has ls 6 [(3, .int x3_9), (4, .int x4_7), (0, .ref (X.2.2 0)), (1, .int p1), (2, .int p2)] := hl
          refine lv_goto (tgt := 7) hx hb dX11_laysKeys_134 (by decide) ?_
          exact ih_7 x3_9 M_3 _ _ _ hw (lv_sub hl [2, 3, 4, 0] rfl) hf
        · have hf := ie_e hf c_8
          refine lv_aload_n hx hb dX11_laysKeys_42 rfl (lv_at hl 1 rfl) ?_
          refine lv_iload_n hx hb dX11_laysKeys_43 rfl (lv_at hl 2 rfl) ?_
          refine lv_iload_n hx hb dX11_laysKeys_44 rfl (lv_at hl 4 rfl) ?_
          obtain ⟨r_11, h_10, hf⟩ := bd_e hf
          refine q_callVi (M' := M_3) (i := 0) (As := [.int p1, .int x3_2]) (rest := []) B hw (c_X11_holdHere l X fu p1 x3_2 M_3 r_11 h_10 _) cv_X11_399 (rc_11 B hw) rfl hl.1 rfl rfl ⟨Nat.le_of_ble_eq_true rfl, Nat.le_of_ble_eq_true rfl⟩ (Nat.le_of_ble_eq_true rfl) ⟨Nat.le_of_ble_eq_true rfl, Nat.le_of_ble_eq_true rfl⟩ dX11_laysKeys_45 rfl (fun H locs hw => ?_)
          refine lv_if_eq (tgt := 131) hx hb dX11_laysKeys_48 (by decide) (fun c_12 => ?_) (fun c_12 => ?_)
          · have hf := it_e hf c_12
            refine r_iinc (v := (x3_2 + 1)) hx hb dX11_laysKeys_131 hl (k := 4) rfl rfl (by decide) hf (fun x3_13 ls hl hf => ?_)
            have hl : lv_has ls 6 [(3, .int x3_13), (4, .int x4_7), (0, .ref (X.2.2 0)), (1, .int p1), (2, .int p2)] := hl
            refine lv_goto (tgt := 7) hx hb dX11_laysKeys_134 (by decide) ?_
            exact ih_7 x3_13 M_3 _ _ _ hw (lv_sub hl [2, 3, 4, 0] rfl) hf
          · have hf := ie_e hf c_12
            refine lv_aload_n hx hb dX11_laysKeys_51 rfl (lv_at hl 1 rfl) ?_
            refine lv_iload hx hb dX11_laysKeys_52 (lv_at hl 0 rfl) ?_
            refine lv_iconst (v := 0) hx hb dX11_laysKeys_54 (by decide) ?_
            refine lv_aload_n hx hb dX11_laysKeys_55 rfl (lv_at hl 1 rfl) ?_
            refine gt_X11_396 B hw dX11_laysKeys_56 ?_
            obtain ⟨r_15, h_14, hf⟩ := bd_e hf
            refine q_callVi (M' := M_3) (i := 0) (As := [.int x4_7, .int 0, .int (M_3 0 63)]) (rest := []) B hw (c_X11_isKey l X fu x4_7 0 (M_3 0 63) M_3 r_15 h_14 _) cv_X11_358 (rc_11 B hw) rfl hl.1 rfl rfl ⟨Nat.le_of_ble_eq_true rfl, Nat.le_of_ble_eq_true rfl⟩ (Nat.le_of_ble_eq_true rfl) ⟨Nat.le_of_ble_eq_true rfl, Nat.le_of_ble_eq_true rfl⟩ dX11_laysKeys_59 rfl (fun H locs hw => ?_)
            refine lv_if_ne (tgt := 131) hx hb dX11_laysKeys_62 (by decide) (fun c_16 => ?_) (fun c_16 => ?_)
            · have hf := ie_e hf c_16
              refine r_iinc (v := (x3_2 + 1)) hx hb dX11_laysKeys_131 hl (k := 4) rfl rfl (by decide) hf (fun x3_17 ls hl hf => ?_)
              have hl : lv_has ls 6 [(3, .int x3_17), (4, .int x4_7), (0, .ref (X.2.2 0)), (1, .int p1), (2, .int p2)] := hl
              refine lv_goto (tgt := 7) hx hb dX11_laysKeys_134 (by decide) ?_
              exact ih_7 x3_17 M_3 _ _ _ hw (lv_sub hl [2, 3, 4, 0] rfl) hf
            · have hf := it_e hf c_16
              refine lv_aload_n hx hb dX11_laysKeys_65 rfl (lv_at hl 1 rfl) ?_
              refine gt_X11_396 B hw dX11_laysKeys_66 ?_
              refine r_topn hf (fun x5_18 hf => ?_)
              refine lv_istore (lv' := [(5, .int x5_18), (4, .int x4_7), (0, .ref (X.2.2 0)), (1, .int p1), (2, .int p2), (3, .int x3_2)]) hx hb dX11_laysKeys_69 hl (by decide) rfl (fun ls hl => ?_)
              refine jn_e hf (fun kk => ∀ (x5_20 : Int32) (M_21 : Mem) (H : Heap) (locs : List Loc) (ls : Array Slot), HW LM X M_21 s H locs → lv_has ls 6 [(0, .ref (X.2.2 0)), (1, .int p1), (2, .int p2), (3, .int x3_2), (4, .int x4_7), (5, .int x5_20)] → kk x5_20 M_21 = some rs → W p l e rm_X11_laysKeys s m args below meth c H locs 0 0 Q (F0 m 112 ls [])) ?_ (fun k112_19 J112_19 hf => ?_)
              · intro x5_20 M_21 H locs ls hw hl hf
                refine lv_aload_n hx hb dX11_laysKeys_112 rfl (lv_at hl 0 rfl) ?_
                refine gt_X11_156 B hw dX11_laysKeys_113 ?_
                refine lv_iload hx hb dX11_laysKeys_116 (lv_at hl 5 rfl) ?_
                refine lv_iload hx hb dX11_laysKeys_118 (lv_at hl 4 rfl) ?_
                obtain ⟨g_22, hf⟩ := grd_e hf
                refine m_iast B hw (i := 48) rfl g_22 dX11_laysKeys_120 hf (fun M_23 H locs hw hf => ?_)
                refine lv_aload_n hx hb dX11_laysKeys_121 rfl (lv_at hl 0 rfl) ?_
                refine lv_dup hx hb dX11_laysKeys_122 rfl ?_
                refine gt_X11_396 B hw dX11_laysKeys_123 ?_
                refine lv_iconst (v := 1) hx hb dX11_laysKeys_126 (by decide) ?_
                refine lv_iadd hx hb dX11_laysKeys_127 ?_
                refine pt_X11_396 B hw dX11_laysKeys_128 hf (fun M_24 H locs hw hf => ?_)
                refine r_iinc (v := (x3_2 + 1)) hx hb dX11_laysKeys_131 hl (k := 3) rfl rfl (by decide) hf (fun x3_25 ls hl hf => ?_)
                have hl : lv_has ls 6 [(3, .int x3_25), (0, .ref (X.2.2 0)), (1, .int p1), (2, .int p2), (4, .int x4_7), (5, .int x5_20)] := hl
                refine lv_goto (tgt := 7) hx hb dX11_laysKeys_134 (by decide) ?_
                exact ih_7 x3_25 M_24 _ _ _ hw (lv_sub hl [1, 2, 3, 0] rfl) hf
              have hL_71 : ∀ (n_71 : Nat) (x5_26 : Int32) (M_27 : Mem) (H : Heap) (locs : List Loc) (ls : Array Slot), HW LM X M_27 s H locs → lv_has ls 6 [(0, .ref (X.2.2 0)), (1, .int p1), (2, .int p2), (3, .int x3_2), (4, .int x4_7), (5, .int x5_26)] → f_X11_laysKeys_L71 fu x4_7 k112_19 n_71 x5_26 M_27 = some rs → W p l e rm_X11_laysKeys s m args below meth c H locs 0 0 Q (F0 m 71 ls []) := by
                intro n_71
                induction n_71 with
                | zero => intro x5_26 M_27 H locs ls hw hl hf; exact no_none hf
                | succ n_71 ih_71 =>
                  intro x5_26 M_27 H locs ls hw hl hf
                  rw [f_X11_laysKeys_L71] at hf
                  refine lv_iload hx hb dX11_laysKeys_71 (lv_at hl 5 rfl) ?_
                  refine lv_if_le (tgt := 112) hx hb dX11_laysKeys_73 (by decide) (fun c_28 => ?_) (fun c_28 => ?_)
                  · have hf := it_e hf c_28
                    exact J112_19 x5_26 M_27 _ _ _ hw (lv_sub hl [0, 1, 2, 3, 4, 5] rfl) hf
                  · have hf := ie_e hf c_28
                    refine lv_aload_n hx hb dX11_laysKeys_76 rfl (lv_at hl 0 rfl) ?_
                    refine gt_X11_156 B hw dX11_laysKeys_77 ?_
                    refine lv_iload hx hb dX11_laysKeys_80 (lv_at hl 5 rfl) ?_
                    refine lv_iconst (v := 1) hx hb dX11_laysKeys_82 (by decide) ?_
                    refine lv_isub hx hb dX11_laysKeys_83 ?_
                    obtain ⟨g_29, hf⟩ := grd_e hf
                    refine m_iald B hw (i := 48) rfl g_29 dX11_laysKeys_84 ?_
                    refine lv_iload hx hb dX11_laysKeys_85 (lv_at hl 4 rfl) ?_
                    refine lv_icmp_le (tgt := 112) hx hb dX11_laysKeys_87 (by decide) (fun c_30 => ?_) (fun c_30 => ?_)
                    · have hf := it_e hf c_30
                      exact J112_19 x5_26 M_27 _ _ _ hw (lv_sub hl [0, 1, 2, 3, 4, 5] rfl) hf
                    · have hf := ie_e hf c_30
                      refine lv_aload_n hx hb dX11_laysKeys_90 rfl (lv_at hl 0 rfl) ?_
                      refine gt_X11_156 B hw dX11_laysKeys_91 ?_
                      refine lv_iload hx hb dX11_laysKeys_94 (lv_at hl 5 rfl) ?_
                      refine lv_aload_n hx hb dX11_laysKeys_96 rfl (lv_at hl 0 rfl) ?_
                      refine gt_X11_156 B hw dX11_laysKeys_97 ?_
                      refine lv_iload hx hb dX11_laysKeys_100 (lv_at hl 5 rfl) ?_
                      refine lv_iconst (v := 1) hx hb dX11_laysKeys_102 (by decide) ?_
                      refine lv_isub hx hb dX11_laysKeys_103 ?_
                      refine m_iald B hw (i := 48) rfl g_29 dX11_laysKeys_104 ?_
                      obtain ⟨g_31, hf⟩ := grd_e hf
                      refine m_iast B hw (i := 48) rfl g_31 dX11_laysKeys_105 hf (fun M_32 H locs hw hf => ?_)
                      refine r_iinc (v := (x5_26 + (-1))) hx hb dX11_laysKeys_106 hl (k := 5) rfl rfl (by decide) hf (fun x5_33 ls hl hf => ?_)
                      have hl : lv_has ls 6 [(5, .int x5_33), (0, .ref (X.2.2 0)), (1, .int p1), (2, .int p2), (3, .int x3_2), (4, .int x4_7)] := hl
                      refine lv_goto (tgt := 71) hx hb dX11_laysKeys_109 (by decide) ?_
                      exact ih_71 x5_33 M_32 _ _ _ hw (lv_sub hl [1, 2, 3, 4, 5, 0] rfl) hf
              exact hL_71 fu x5_18 M_3 _ _ _ hw (lv_sub hl [2, 3, 4, 5, 1, 0] rfl) hf
  exact hL_7 fu 0 M_1 _ _ _ hw (lv_sub hl [1, 2, 3, 0] rfl) hf
abbrev rm_X11_canBind : Room := { frames := 5, cells := 0, slots := 0, locals := 114 }
set_option maxRecDepth 100000 in
set_option maxHeartbeats 4000000 in
theorem c_X11_canBind (l : Launch) (X : XT) (fu : Nat) (p1 : Int32) (p2 : Int32) (M : Mem)  (rs : (Int32 × Mem)) (hf : f_X11_canBind fu p1 p2 M = some rs) (sz : Nat) : Met l yX11_canBind (wbig yX11_canBind cX11_canBind 7 (some .boolean)) rm_X11_canBind (va_Pc [.ref (X.2.2 0), .int p1, .int p2] (PW LM X M sz)) (QI LM X rs.2 rs.1 sz) 0 0 (AX LM X sz) := by
  refine met_go (L := LM) (M := M) (by decide +kernel) (Nat.le_of_ble_eq_true rfl) ?_
  intro p e s m args below meth c hsz B hr hlk hw ls hl
  subst hsz
  have hx := B.hx
  have hb := B.hb
  have hl : lv_has ls 7 [(0, .ref (X.2.2 0)), (1, .int p1), (2, .int p2)] := hl
  generalize hQ : MQ below _ args s 0 0 (AX LM X s.heap.size) = Q
  unfold f_X11_canBind at hf
  refine lv_aload_n hx hb dX11_canBind_0 rfl (lv_at hl 0 rfl) ?_
  refine gt_X11_68 B hw dX11_canBind_1 ?_
  refine lv_iload_n hx hb dX11_canBind_4 rfl (lv_at hl 2 rfl) ?_
  obtain ⟨g_1, hf⟩ := grd_e hf
  refine m_iald B hw (i := 20) rfl g_1 dX11_canBind_5 ?_
  refine lv_iload_n hx hb dX11_canBind_6 rfl (lv_at hl 1 rfl) ?_
  refine nmv_e hf (fun kk => ∀ (H : Heap) (locs : List Loc), HW LM X M s H locs → W p l e rm_X11_canBind s m args below meth c H locs 0 0 Q (F0 m 15 ls [.int kk])) (fun J => ?_) (fun v_3 hf H locs hw => ?_)
  · refine lv_icmp_ne (tgt := 14) hx hb dX11_canBind_7 (by decide) (fun c_2 => ?_) (fun c_2 => ?_)
    · rw [if_neg c_2] at J
      refine lv_iconst (v := 0) hx hb dX11_canBind_14 (by decide) ?_
      exact J _ _ hw
    · rw [if_pos c_2] at J
      refine lv_iconst (v := 1) hx hb dX11_canBind_10 (by decide) ?_
      refine lv_goto (tgt := 15) hx hb dX11_canBind_11 (by decide) ?_
      exact J _ _ hw
  · refine lv_istore_n (lv' := [(3, .int v_3), (0, .ref (X.2.2 0)), (1, .int p1), (2, .int p2)]) hx hb dX11_canBind_15 rfl hl (by decide) rfl (fun ls hl => ?_)
    refine lv_iload_n hx hb dX11_canBind_16 rfl (lv_at hl 0 rfl) ?_
    refine nmv_e hf (fun kk => ∀ (H : Heap) (locs : List Loc), HW LM X M s H locs → W p l e rm_X11_canBind s m args below meth c H locs 0 0 Q (F0 m 35 ls [.int kk])) (fun J => ?_) (fun v_5 hf H locs hw => ?_)
    · refine lv_if_eq (tgt := 29) hx hb dX11_canBind_17 (by decide) (fun c_4 => ?_) (fun c_4 => ?_)
      · rw [if_pos c_4] at J
        refine lv_aload_n hx hb dX11_canBind_29 rfl (lv_at hl 1 rfl) ?_
        refine gt_X11_77 B hw dX11_canBind_30 ?_
        refine lv_iload_n hx hb dX11_canBind_33 rfl (lv_at hl 3 rfl) ?_
        refine m_iald B hw (i := 23) rfl g_1 dX11_canBind_34 ?_
        exact J _ _ hw
      · rw [if_neg c_4] at J
        refine lv_aload_n hx hb dX11_canBind_20 rfl (lv_at hl 1 rfl) ?_
        refine gt_X11_71 B hw dX11_canBind_21 ?_
        refine lv_iload_n hx hb dX11_canBind_24 rfl (lv_at hl 3 rfl) ?_
        refine m_iald B hw (i := 21) rfl g_1 dX11_canBind_25 ?_
        refine lv_goto (tgt := 35) hx hb dX11_canBind_26 (by decide) ?_
        exact J _ _ hw
    · refine lv_istore (lv' := [(4, .int v_5), (3, .int v_3), (0, .ref (X.2.2 0)), (1, .int p1), (2, .int p2)]) hx hb dX11_canBind_35 hl (by decide) rfl (fun ls hl => ?_)
      refine lv_iload_n hx hb dX11_canBind_37 rfl (lv_at hl 1 rfl) ?_
      refine nmv_e hf (fun kk => ∀ (H : Heap) (locs : List Loc), HW LM X M s H locs → W p l e rm_X11_canBind s m args below meth c H locs 0 0 Q (F0 m 56 ls [.int kk])) (fun J => ?_) (fun v_7 hf H locs hw => ?_)
      · refine lv_if_eq (tgt := 50) hx hb dX11_canBind_38 (by decide) (fun c_6 => ?_) (fun c_6 => ?_)
        · rw [if_pos c_6] at J
          refine lv_aload_n hx hb dX11_canBind_50 rfl (lv_at hl 2 rfl) ?_
          refine gt_X11_68 B hw dX11_canBind_51 ?_
          refine lv_iload_n hx hb dX11_canBind_54 rfl (lv_at hl 4 rfl) ?_
          refine m_iald B hw (i := 20) rfl g_1 dX11_canBind_55 ?_
          exact J _ _ hw
        · rw [if_neg c_6] at J
          refine lv_aload_n hx hb dX11_canBind_41 rfl (lv_at hl 2 rfl) ?_
          refine gt_X11_74 B hw dX11_canBind_42 ?_
          refine lv_iload_n hx hb dX11_canBind_45 rfl (lv_at hl 4 rfl) ?_
          refine m_iald B hw (i := 22) rfl g_1 dX11_canBind_46 ?_
          refine lv_goto (tgt := 56) hx hb dX11_canBind_47 (by decide) ?_
          exact J _ _ hw
      · refine lv_istore (lv' := [(5, .int v_7), (4, .int v_5), (3, .int v_3), (0, .ref (X.2.2 0)), (1, .int p1), (2, .int p2)]) hx hb dX11_canBind_56 hl (by decide) rfl (fun ls hl => ?_)
        refine lv_aload_n hx hb dX11_canBind_58 rfl (lv_at hl 3 rfl) ?_
        refine gt_X11_65 B hw dX11_canBind_59 ?_
        refine lv_iload_n hx hb dX11_canBind_62 rfl (lv_at hl 4 rfl) ?_
        obtain ⟨g_8, hf⟩ := grd_e hf
        refine m_iald B hw (i := 19) rfl g_8 dX11_canBind_63 ?_
        refine q_callSi (M' := M) (As := [.int (M 19 p1.toNatClampNeg)]) (rest := []) B hw (c_X11_storeOf l X (M 19 p1.toNatClampNeg) _ rfl M _) cs_X11_220 rfl hl.1 rfl rfl ⟨Nat.le_of_ble_eq_true rfl, Nat.le_of_ble_eq_true rfl⟩ (Nat.le_of_ble_eq_true rfl) ⟨Nat.le_of_ble_eq_true rfl, Nat.le_of_ble_eq_true rfl⟩ dX11_canBind_64 rfl (fun H locs hw => ?_)
        refine r_topn hf (fun x6_9 hf => ?_)
        refine lv_istore (lv' := [(6, .int x6_9), (5, .int v_7), (4, .int v_5), (3, .int v_3), (0, .ref (X.2.2 0)), (1, .int p1), (2, .int p2)]) hx hb dX11_canBind_67 hl (by decide) rfl (fun ls hl => ?_)
        refine lv_iload hx hb dX11_canBind_69 (lv_at hl 0 rfl) ?_
        refine lv_iload hx hb dX11_canBind_71 (lv_at hl 2 rfl) ?_
        refine lv_iconst (v := 0) hx hb dX11_canBind_73 (by decide) ?_
        refine q_callSi (M' := M) (As := [.int x6_9, .int v_5, .int 0]) (rest := []) B hw (c_X11_canDo l X x6_9 v_5 0 _ rfl M _) cs_X11_321 rfl hl.1 rfl rfl ⟨Nat.le_of_ble_eq_true rfl, Nat.le_of_ble_eq_true rfl⟩ (Nat.le_of_ble_eq_true rfl) ⟨Nat.le_of_ble_eq_true rfl, Nat.le_of_ble_eq_true rfl⟩ dX11_canBind_74 rfl (fun H locs hw => ?_)
        refine lv_if_eq (tgt := 96) hx hb dX11_canBind_77 (by decide) (fun c_10 => ?_) (fun c_10 => ?_)
        · have hf := it_e hf c_10
          refine lv_iconst (v := 0) hx hb dX11_canBind_96 (by decide) ?_
          cases hf
          subst hQ
          exact q_zret B hr hlk rfl hw rfl rfl dX11_canBind_97
        · have hf := ie_e hf c_10
          refine lv_aload_n hx hb dX11_canBind_80 rfl (lv_at hl 4 rfl) ?_
          refine lv_aload_n hx hb dX11_canBind_81 rfl (lv_at hl 4 rfl) ?_
          refine gt_X11_65 B hw dX11_canBind_82 ?_
          refine lv_iload hx hb dX11_canBind_85 (lv_at hl 1 rfl) ?_
          obtain ⟨g_11, hf⟩ := grd_e hf
          refine m_iald B hw (i := 19) rfl g_11 dX11_canBind_87 ?_
          refine lv_iload hx hb dX11_canBind_88 (lv_at hl 0 rfl) ?_
          obtain ⟨r_13, h_12, hf⟩ := bd_e hf
          refine q_callVi (M' := M) (i := 0) (As := [.int (M 19 v_7.toNatClampNeg), .int x6_9]) (rest := []) B hw (c_X11_isForbidden l X fu (M 19 v_7.toNatClampNeg) x6_9 M r_13 h_12 _) cv_X11_293 (rc_11 B hw) rfl hl.1 rfl rfl ⟨Nat.le_of_ble_eq_true rfl, Nat.le_of_ble_eq_true rfl⟩ (Nat.le_of_ble_eq_true rfl) ⟨Nat.le_of_ble_eq_true rfl, Nat.le_of_ble_eq_true rfl⟩ dX11_canBind_90 rfl (fun H locs hw => ?_)
          refine lv_if_eq (tgt := 98) hx hb dX11_canBind_93 (by decide) (fun c_14 => ?_) (fun c_14 => ?_)
          · have hf := it_e hf c_14
            refine lv_aload_n hx hb dX11_canBind_98 rfl (lv_at hl 4 rfl) ?_
            refine lv_iload hx hb dX11_canBind_99 (lv_at hl 1 rfl) ?_
            refine lv_iload_n hx hb dX11_canBind_101 rfl (lv_at hl 3 rfl) ?_
            refine nmv_e hf (fun kk => ∀ (H : Heap) (locs : List Loc), HW LM X M s H locs → W p l e rm_X11_canBind s m args below meth c H locs 0 0 Q (F0 m 120 ls [.int kk, .int v_7, .ref (X.2.2 0)])) (fun J => ?_) (fun v_16 hf H locs hw => ?_)
            · refine lv_if_eq (tgt := 114) hx hb dX11_canBind_102 (by decide) (fun c_15 => ?_) (fun c_15 => ?_)
              · rw [if_pos c_15] at J
                refine lv_aload_n hx hb dX11_canBind_114 rfl (lv_at hl 4 rfl) ?_
                refine gt_X11_71 B hw dX11_canBind_115 ?_
                refine lv_iload_n hx hb dX11_canBind_118 rfl (lv_at hl 6 rfl) ?_
                refine m_iald B hw (i := 21) rfl g_1 dX11_canBind_119 ?_
                exact J _ _ hw
              · rw [if_neg c_15] at J
                refine lv_aload_n hx hb dX11_canBind_105 rfl (lv_at hl 4 rfl) ?_
                refine gt_X11_77 B hw dX11_canBind_106 ?_
                refine lv_iload_n hx hb dX11_canBind_109 rfl (lv_at hl 6 rfl) ?_
                refine m_iald B hw (i := 23) rfl g_1 dX11_canBind_110 ?_
                refine lv_goto (tgt := 120) hx hb dX11_canBind_111 (by decide) ?_
                exact J _ _ hw
            · obtain ⟨M_18, h_17, hf⟩ := bd_e hf
              refine q_callVv (M' := M_18) (i := 0) (As := [.int v_7, .int v_16]) (rest := []) B hw (c_X11_laysKeys l X fu v_7 v_16 M M_18 h_17 _) cv_X11_402 (rc_11 B hw) rfl hl.1 rfl rfl ⟨Nat.le_of_ble_eq_true rfl, Nat.le_of_ble_eq_true rfl⟩ (Nat.le_of_ble_eq_true rfl) ⟨Nat.le_of_ble_eq_true rfl, Nat.le_of_ble_eq_true rfl⟩ dX11_canBind_120 rfl (fun H locs hw => ?_)
              refine lv_aload_n hx hb dX11_canBind_123 rfl (lv_at hl 4 rfl) ?_
              refine gt_X11_396 B hw dX11_canBind_124 ?_
              refine lv_iconst (v := 3) hx hb dX11_canBind_127 (by decide) ?_
              refine lv_iadd hx hb dX11_canBind_128 ?_
              refine lv_iconst (v := 4) hx hb dX11_canBind_129 (by decide) ?_
              refine lv_idiv hx hb dX11_canBind_130 (by decide) ?_
              refine lv_aload_n hx hb dX11_canBind_131 rfl (lv_at hl 4 rfl) ?_
              refine gt_X11_53 B hw dX11_canBind_132 ?_
              refine lv_iload hx hb dX11_canBind_135 (lv_at hl 0 rfl) ?_
              obtain ⟨g_19, hf⟩ := grd_e hf
              refine m_iald B hw (i := 15) rfl g_19 dX11_canBind_137 ?_
              refine lv_imul hx hb dX11_canBind_138 ?_
              refine lv_aload_n hx hb dX11_canBind_139 rfl (lv_at hl 4 rfl) ?_
              refine gt_X11_396 B hw dX11_canBind_140 ?_
              refine lv_aload_n hx hb dX11_canBind_143 rfl (lv_at hl 4 rfl) ?_
              refine gt_X11_56 B hw dX11_canBind_144 ?_
              refine lv_iload hx hb dX11_canBind_147 (lv_at hl 0 rfl) ?_
              refine m_iald B hw (i := 16) rfl g_19 dX11_canBind_149 ?_
              refine lv_imul hx hb dX11_canBind_150 ?_
              refine lv_iadd hx hb dX11_canBind_151 ?_
              refine lv_aload_n hx hb dX11_canBind_152 rfl (lv_at hl 4 rfl) ?_
              refine gt_X11_53 B hw dX11_canBind_153 ?_
              refine lv_iload hx hb dX11_canBind_156 (lv_at hl 0 rfl) ?_
              refine m_iald B hw (i := 15) rfl g_19 dX11_canBind_158 ?_
              refine lv_aload_n hx hb dX11_canBind_159 rfl (lv_at hl 4 rfl) ?_
              refine lv_iload_n hx hb dX11_canBind_160 rfl (lv_at hl 5 rfl) ?_
              obtain ⟨r_21, h_20, hf⟩ := bd_e hf
              refine q_callVi (M' := M_18) (i := 0) (As := [.int p1]) (rest := [.int (M_18 15 x6_9.toNatClampNeg), .int (((((M_18 0 63) + 3) / 4) * (M_18 15 x6_9.toNatClampNeg)) + ((M_18 0 63) * (M_18 16 x6_9.toNatClampNeg)))]) B hw (c_X11_guess l X fu p1 M_18 r_21 h_20 _) cv_X11_393 (rc_11 B hw) rfl hl.1 rfl rfl ⟨Nat.le_of_ble_eq_true rfl, Nat.le_of_ble_eq_true rfl⟩ (Nat.le_of_ble_eq_true rfl) ⟨Nat.le_of_ble_eq_true rfl, Nat.le_of_ble_eq_true rfl⟩ dX11_canBind_161 rfl (fun H locs hw => ?_)
              refine lv_aload_n hx hb dX11_canBind_164 rfl (lv_at hl 4 rfl) ?_
              refine gt_X11_56 B hw dX11_canBind_165 ?_
              refine lv_iload hx hb dX11_canBind_168 (lv_at hl 0 rfl) ?_
              refine m_iald B hw (i := 16) rfl g_19 dX11_canBind_170 ?_
              refine lv_imul hx hb dX11_canBind_171 ?_
              refine lv_iadd hx hb dX11_canBind_172 ?_
              refine lv_icmp_ge (tgt := 180) hx hb dX11_canBind_173 (by decide) (fun c_22 => ?_) (fun c_22 => ?_)
              · have hf := it_e hf c_22
                refine lv_iconst (v := 0) hx hb dX11_canBind_180 (by decide) ?_
                cases hf
                subst hQ
                exact q_zret B hr hlk rfl hw rfl rfl dX11_canBind_181
              · have hf := ie_e hf c_22
                refine lv_iconst (v := 1) hx hb dX11_canBind_176 (by decide) ?_
                refine lv_goto (tgt := 181) hx hb dX11_canBind_177 (by decide) ?_
                cases hf
                subst hQ
                exact q_zret B hr hlk rfl hw rfl rfl dX11_canBind_181
          · have hf := ie_e hf c_14
            refine lv_iconst (v := 0) hx hb dX11_canBind_96 (by decide) ?_
            cases hf
            subst hQ
            exact q_zret B hr hlk rfl hw rfl rfl dX11_canBind_97
abbrev rm_X11_binds : Room := { frames := 6, cells := 0, slots := 0, locals := 137 }
set_option maxRecDepth 100000 in
set_option maxHeartbeats 4000000 in
theorem c_X11_binds (l : Launch) (X : XT) (fu : Nat) (p1 : Int32) (p2 : Int32) (M : Mem)  (rs : (Int32 × Mem)) (hf : f_X11_binds fu p1 p2 M = some rs) (sz : Nat) : Met l yX11_binds (wbig yX11_binds cX11_binds 8 (some .int)) rm_X11_binds (va_Pc [.ref (X.2.2 0), .int p1, .int p2] (PW LM X M sz)) (QI LM X rs.2 rs.1 sz) 0 0 (AX LM X sz) := by
  refine met_go (L := LM) (M := M) (by decide +kernel) (Nat.le_of_ble_eq_true rfl) ?_
  intro p e s m args below meth c hsz B hr hlk hw ls hl
  subst hsz
  have hx := B.hx
  have hb := B.hb
  have hl : lv_has ls 8 [(0, .ref (X.2.2 0)), (1, .int p1), (2, .int p2)] := hl
  generalize hQ : MQ below _ args s 0 0 (AX LM X s.heap.size) = Q
  unfold f_X11_binds at hf
  refine lv_aload_n hx hb dX11_binds_0 rfl (lv_at hl 0 rfl) ?_
  refine gt_X11_65 B hw dX11_binds_1 ?_
  refine lv_iload_n hx hb dX11_binds_4 rfl (lv_at hl 1 rfl) ?_
  obtain ⟨g_1, hf⟩ := grd_e hf
  refine m_iald B hw (i := 19) rfl g_1 dX11_binds_5 ?_
  refine q_callSi (M' := M) (As := [.int (M 19 p1.toNatClampNeg)]) (rest := []) B hw (c_X11_storeOf l X (M 19 p1.toNatClampNeg) _ rfl M _) cs_X11_220 rfl hl.1 rfl rfl ⟨Nat.le_of_ble_eq_true rfl, Nat.le_of_ble_eq_true rfl⟩ (Nat.le_of_ble_eq_true rfl) ⟨Nat.le_of_ble_eq_true rfl, Nat.le_of_ble_eq_true rfl⟩ dX11_binds_6 rfl (fun H locs hw => ?_)
  refine r_topn hf (fun x3_2 hf => ?_)
  refine lv_istore_n (lv' := [(3, .int x3_2), (0, .ref (X.2.2 0)), (1, .int p1), (2, .int p2)]) hx hb dX11_binds_9 rfl hl (by decide) rfl (fun ls hl => ?_)
  refine lv_aload_n hx hb dX11_binds_10 rfl (lv_at hl 1 rfl) ?_
  refine gt_X11_53 B hw dX11_binds_11 ?_
  refine lv_iload_n hx hb dX11_binds_14 rfl (lv_at hl 0 rfl) ?_
  obtain ⟨g_3, hf⟩ := grd_e hf
  refine m_iald B hw (i := 15) rfl g_3 dX11_binds_15 ?_
  refine lv_aload_n hx hb dX11_binds_16 rfl (lv_at hl 1 rfl) ?_
  refine lv_iload_n hx hb dX11_binds_17 rfl (lv_at hl 2 rfl) ?_
  obtain ⟨r_5, h_4, hf⟩ := bd_e hf
  refine q_callVi (M' := M) (i := 0) (As := [.int p1]) (rest := [.int (M 15 x3_2.toNatClampNeg)]) B hw (c_X11_guess l X fu p1 M r_5 h_4 _) cv_X11_393 (rc_11 B hw) rfl hl.1 rfl rfl ⟨Nat.le_of_ble_eq_true rfl, Nat.le_of_ble_eq_true rfl⟩ (Nat.le_of_ble_eq_true rfl) ⟨Nat.le_of_ble_eq_true rfl, Nat.le_of_ble_eq_true rfl⟩ dX11_binds_18 rfl (fun H locs hw => ?_)
  refine lv_aload_n hx hb dX11_binds_21 rfl (lv_at hl 1 rfl) ?_
  refine gt_X11_56 B hw dX11_binds_22 ?_
  refine lv_iload_n hx hb dX11_binds_25 rfl (lv_at hl 0 rfl) ?_
  refine m_iald B hw (i := 16) rfl g_3 dX11_binds_26 ?_
  refine lv_imul hx hb dX11_binds_27 ?_
  refine lv_iadd hx hb dX11_binds_28 ?_
  refine r_topn hf (fun x4_6 hf => ?_)
  refine lv_istore (lv' := [(4, .int x4_6), (3, .int x3_2), (0, .ref (X.2.2 0)), (1, .int p1), (2, .int p2)]) hx hb dX11_binds_29 hl (by decide) rfl (fun ls hl => ?_)
  refine lv_iconst (v := 0) hx hb dX11_binds_31 (by decide) ?_
  refine lv_istore (lv' := [(5, .int 0), (4, .int x4_6), (3, .int x3_2), (0, .ref (X.2.2 0)), (1, .int p1), (2, .int p2)]) hx hb dX11_binds_32 hl (by decide) rfl (fun ls hl => ?_)
  refine lv_aload_n hx hb dX11_binds_34 rfl (lv_at hl 3 rfl) ?_
  refine gt_X11_141 B hw dX11_binds_35 ?_
  refine lv_iload_n hx hb dX11_binds_38 rfl (lv_at hl 4 rfl) ?_
  refine lv_iconst (v := 0) hx hb dX11_binds_39 (by decide) ?_
  refine m_iast B hw (i := 43) rfl g_1 dX11_binds_40 hf (fun M_7 H locs hw hf => ?_)
  refine lv_iconst (v := 0) hx hb dX11_binds_41 (by decide) ?_
  refine lv_istore (lv' := [(6, .int 0), (5, .int 0), (4, .int x4_6), (3, .int x3_2), (0, .ref (X.2.2 0)), (1, .int p1), (2, .int p2)]) hx hb dX11_binds_42 hl (by decide) rfl (fun ls hl => ?_)
  refine jn_e hf (fun kk => ∀ (x5_9 : Int32) (M_10 : Mem) (H : Heap) (locs : List Loc) (ls : Array Slot), HW LM X M_10 s H locs → lv_has ls 8 [(5, .int x5_9)] → kk x5_9 M_10 = some rs → W p l e rm_X11_binds s m args below meth c H locs 0 0 Q (F0 m 158 ls [])) ?_ (fun k158_8 J158_8 hf => ?_)
  · intro x5_9 M_10 H locs ls hw hl hf
    refine lv_iconst (v := 1) hx hb dX11_binds_158 (by decide) ?_
    refine lv_iload hx hb dX11_binds_159 (lv_at hl 0 rfl) ?_
    refine lv_if_eq (tgt := 169) hx hb dX11_binds_161 (by decide) (fun c_11 => ?_) (fun c_11 => ?_)
    · have hf := it_e hf c_11
      refine lv_iconst (v := 0) hx hb dX11_binds_169 (by decide) ?_
      refine lv_iadd hx hb dX11_binds_170 ?_
      cases hf
      subst hQ
      exact q_iret B hr hlk hw rfl rfl dX11_binds_171
    · have hf := ie_e hf c_11
      refine lv_bipush (v := 10) hx hb dX11_binds_164 (by decide) ?_
      refine lv_goto (tgt := 170) hx hb dX11_binds_166 (by decide) ?_
      refine lv_iadd hx hb dX11_binds_170 ?_
      cases hf
      subst hQ
      exact q_iret B hr hlk hw rfl rfl dX11_binds_171
  have hL_44 : ∀ (n_44 : Nat) (x5_12 : Int32) (x6_13 : Int32) (M_14 : Mem) (H : Heap) (locs : List Loc) (ls : Array Slot), HW LM X M_14 s H locs → lv_has ls 8 [(0, .ref (X.2.2 0)), (1, .int p1), (2, .int p2), (3, .int x3_2), (4, .int x4_6), (5, .int x5_12), (6, .int x6_13)] → f_X11_binds_L44 fu p1 p2 x3_2 x4_6 k158_8 n_44 x5_12 x6_13 M_14 = some rs → W p l e rm_X11_binds s m args below meth c H locs 0 0 Q (F0 m 44 ls []) := by
    intro n_44
    induction n_44 with
    | zero => intro x5_12 x6_13 M_14 H locs ls hw hl hf; exact no_none hf
    | succ n_44 ih_44 =>
      intro x5_12 x6_13 M_14 H locs ls hw hl hf
      rw [f_X11_binds_L44] at hf
      refine lv_iload hx hb dX11_binds_44 (lv_at hl 6 rfl) ?_
      refine lv_aload_n hx hb dX11_binds_46 rfl (lv_at hl 0 rfl) ?_
      refine gt_X11_396 B hw dX11_binds_47 ?_
      refine lv_icmp_ge (tgt := 158) hx hb dX11_binds_50 (by decide) (fun c_15 => ?_) (fun c_15 => ?_)
      · have hf := it_e hf c_15
        exact J158_8 x5_12 M_14 _ _ _ hw (lv_sub hl [5] rfl) hf
      · have hf := ie_e hf c_15
        refine lv_aload_n hx hb dX11_binds_53 rfl (lv_at hl 0 rfl) ?_
        refine lv_iload_n hx hb dX11_binds_54 rfl (lv_at hl 3 rfl) ?_
        obtain ⟨r_17, M_18, h_16, hf⟩ := bm_e hf
        refine q_callVi (M' := M_18) (i := 0) (As := [.int x3_2]) (rest := []) B hw (c_X11_requests l X fu x3_2 M_14 (r_17, M_18) h_16 _) cv_X11_367 (rc_11 B hw) rfl hl.1 rfl rfl ⟨Nat.le_of_ble_eq_true rfl, Nat.le_of_ble_eq_true rfl⟩ (Nat.le_of_ble_eq_true rfl) ⟨Nat.le_of_ble_eq_true rfl, Nat.le_of_ble_eq_true rfl⟩ dX11_binds_55 rfl (fun H locs hw => ?_)
        refine lv_if_ne (tgt := 64) hx hb dX11_binds_58 (by decide) (fun c_19 => ?_) (fun c_19 => ?_)
        · have hf := ie_e hf c_19
          refine lv_iload hx hb dX11_binds_64 (lv_at hl 6 rfl) ?_
          refine lv_iconst (v := 4) hx hb dX11_binds_66 (by decide) ?_
          refine lv_iadd hx hb dX11_binds_67 ?_
          refine lv_aload_n hx hb dX11_binds_68 rfl (lv_at hl 0 rfl) ?_
          refine gt_X11_396 B hw dX11_binds_69 ?_
          refine nmv_e hf (fun kk => ∀ (H : Heap) (locs : List Loc), HW LM X M_18 s H locs → W p l e rm_X11_binds s m args below meth c H locs 0 0 Q (F0 m 86 ls [.int kk])) (fun J => ?_) (fun v_21 hf H locs hw => ?_)
          · refine lv_icmp_ge (tgt := 82) hx hb dX11_binds_72 (by decide) (fun c_20 => ?_) (fun c_20 => ?_)
            · rw [if_pos c_20] at J
              refine lv_aload_n hx hb dX11_binds_82 rfl (lv_at hl 0 rfl) ?_
              refine gt_X11_396 B hw dX11_binds_83 ?_
              exact J _ _ hw
            · rw [if_neg c_20] at J
              refine lv_iload hx hb dX11_binds_75 (lv_at hl 6 rfl) ?_
              refine lv_iconst (v := 4) hx hb dX11_binds_77 (by decide) ?_
              refine lv_iadd hx hb dX11_binds_78 ?_
              refine lv_goto (tgt := 86) hx hb dX11_binds_79 (by decide) ?_
              exact J _ _ hw
          · refine lv_istore (lv' := [(7, .int v_21), (0, .ref (X.2.2 0)), (1, .int p1), (2, .int p2), (3, .int x3_2), (4, .int x4_6), (5, .int x5_12), (6, .int x6_13)]) hx hb dX11_binds_86 hl (by decide) rfl (fun ls hl => ?_)
            refine lv_aload_n hx hb dX11_binds_88 rfl (lv_at hl 1 rfl) ?_
            refine lv_iload_n hx hb dX11_binds_89 rfl (lv_at hl 2 rfl) ?_
            refine lv_iload_n hx hb dX11_binds_90 rfl (lv_at hl 3 rfl) ?_
            refine lv_iload hx hb dX11_binds_91 (lv_at hl 7 rfl) ?_
            refine lv_iload hx hb dX11_binds_93 (lv_at hl 0 rfl) ?_
            obtain ⟨M_23, h_22, hf⟩ := bd_e hf
            refine q_callVv (M' := M_23) (i := 0) (As := [.int p1, .int p2, .int x6_13, .int v_21]) (rest := []) B hw (c_X11_comes l X fu p1 p2 x6_13 v_21 M_18 M_23 h_22 _) cv_X11_370 (rc_11 B hw) rfl hl.1 rfl rfl ⟨Nat.le_of_ble_eq_true rfl, Nat.le_of_ble_eq_true rfl⟩ (Nat.le_of_ble_eq_true rfl) ⟨Nat.le_of_ble_eq_true rfl, Nat.le_of_ble_eq_true rfl⟩ dX11_binds_95 rfl (fun H locs hw => ?_)
            refine lv_iload hx hb dX11_binds_98 (lv_at hl 6 rfl) ?_
            refine nmv_e hf (fun kk => ∀ (H : Heap) (locs : List Loc), HW LM X M_23 s H locs → W p l e rm_X11_binds s m args below meth c H locs 0 0 Q (F0 m 115 ls [.int kk])) (fun J => ?_) (fun v_26 hf H locs hw => ?_)
            · refine lv_if_ne (tgt := 110) hx hb dX11_binds_100 (by decide) (fun c_24 => ?_) (fun c_24 => ?_)
              · rw [if_neg c_24] at J
                refine lv_iconst (v := 1) hx hb dX11_binds_110 (by decide) ?_
                refine lv_goto (tgt := 115) hx hb dX11_binds_111 (by decide) ?_
                exact J _ _ hw
              · rw [if_pos c_24] at J
                refine lv_aload_n hx hb dX11_binds_103 rfl (lv_at hl 1 rfl) ?_
                refine gt_X11_352 B hw dX11_binds_104 ?_
                refine lv_if_eq (tgt := 114) hx hb dX11_binds_107 (by decide) (fun c_25 => ?_) (fun c_25 => ?_)
                · rw [if_pos c_25] at J
                  refine lv_iconst (v := 0) hx hb dX11_binds_114 (by decide) ?_
                  exact J _ _ hw
                · rw [if_neg c_25] at J
                  refine lv_iconst (v := 1) hx hb dX11_binds_110 (by decide) ?_
                  refine lv_goto (tgt := 115) hx hb dX11_binds_111 (by decide) ?_
                  exact J _ _ hw
            · refine lv_istore (lv' := [(5, .int v_26), (7, .int v_21), (0, .ref (X.2.2 0)), (1, .int p1), (2, .int p2), (3, .int x3_2), (4, .int x4_6), (6, .int x6_13)]) hx hb dX11_binds_115 hl (by decide) rfl (fun ls hl => ?_)
              refine lv_iload hx hb dX11_binds_117 (lv_at hl 1 rfl) ?_
              refine lv_aload_n hx hb dX11_binds_119 rfl (lv_at hl 2 rfl) ?_
              refine gt_X11_396 B hw dX11_binds_120 ?_
              refine lv_icmp_ge (tgt := 152) hx hb dX11_binds_123 (by decide) (fun c_27 => ?_) (fun c_27 => ?_)
              · have hf := it_e hf c_27
                refine r_iinc (v := (x6_13 + 4)) hx hb dX11_binds_152 hl (k := 7) rfl rfl (by decide) hf (fun x6_28 ls hl hf => ?_)
                have hl : lv_has ls 8 [(6, .int x6_28), (5, .int v_26), (7, .int v_21), (0, .ref (X.2.2 0)), (1, .int p1), (2, .int p2), (3, .int x3_2), (4, .int x4_6)] := hl
                refine lv_goto (tgt := 44) hx hb dX11_binds_155 (by decide) ?_
                exact ih_44 v_26 x6_28 M_23 _ _ _ hw (lv_sub hl [3, 4, 5, 6, 7, 1, 0] rfl) hf
              · have hf := ie_e hf c_27
                refine lv_aload_n hx hb dX11_binds_126 rfl (lv_at hl 2 rfl) ?_
                refine gt_X11_345 B hw dX11_binds_127 ?_
                refine lv_iload hx hb dX11_binds_130 (lv_at hl 6 rfl) ?_
                refine lv_icmp_lt (tgt := 152) hx hb dX11_binds_132 (by decide) (fun c_29 => ?_) (fun c_29 => ?_)
                · have hf := it_e hf c_29
                  refine r_iinc (v := (x6_13 + 4)) hx hb dX11_binds_152 hl (k := 7) rfl rfl (by decide) hf (fun x6_30 ls hl hf => ?_)
                  have hl : lv_has ls 8 [(6, .int x6_30), (5, .int v_26), (7, .int v_21), (0, .ref (X.2.2 0)), (1, .int p1), (2, .int p2), (3, .int x3_2), (4, .int x4_6)] := hl
                  refine lv_goto (tgt := 44) hx hb dX11_binds_155 (by decide) ?_
                  exact ih_44 v_26 x6_30 M_23 _ _ _ hw (lv_sub hl [3, 4, 5, 6, 7, 1, 0] rfl) hf
                · have hf := ie_e hf c_29
                  refine lv_iconst (v := 2) hx hb dX11_binds_135 (by decide) ?_
                  refine lv_aload_n hx hb dX11_binds_136 rfl (lv_at hl 2 rfl) ?_
                  refine lv_iload_n hx hb dX11_binds_137 rfl (lv_at hl 3 rfl) ?_
                  obtain ⟨r_32, M_33, h_31, hf⟩ := bm_e hf
                  refine q_callVi (M' := M_33) (i := 0) (As := [.int p1]) (rest := [.int 2]) B hw (c_X11_scans l X fu p1 M_23 (r_32, M_33) h_31 _) cv_X11_405 (rc_11 B hw) rfl hl.1 rfl rfl ⟨Nat.le_of_ble_eq_true rfl, Nat.le_of_ble_eq_true rfl⟩ (Nat.le_of_ble_eq_true rfl) ⟨Nat.le_of_ble_eq_true rfl, Nat.le_of_ble_eq_true rfl⟩ dX11_binds_138 rfl (fun H locs hw => ?_)
                  refine lv_if_eq (tgt := 149) hx hb dX11_binds_141 (by decide) (fun c_34 => ?_) (fun c_34 => ?_)
                  · have hf := it_e hf c_34
                    refine lv_iconst (v := 0) hx hb dX11_binds_149 (by decide) ?_
                    refine lv_iadd hx hb dX11_binds_150 ?_
                    cases hf
                    subst hQ
                    exact q_iret B hr hlk hw rfl rfl dX11_binds_151
                  · have hf := ie_e hf c_34
                    refine lv_bipush (v := 10) hx hb dX11_binds_144 (by decide) ?_
                    refine lv_goto (tgt := 150) hx hb dX11_binds_146 (by decide) ?_
                    refine lv_iadd hx hb dX11_binds_150 ?_
                    cases hf
                    subst hQ
                    exact q_iret B hr hlk hw rfl rfl dX11_binds_151
        · have hf := it_e hf c_19
          refine lv_bipush (v := 11) hx hb dX11_binds_61 (by decide) ?_
          cases hf
          subst hQ
          exact q_iret B hr hlk hw rfl rfl dX11_binds_63
  exact hL_44 fu 0 0 M_7 _ _ _ hw (lv_sub hl [4, 5, 6, 3, 2, 1, 0] rfl) hf
abbrev rm_X11_takes : Room := { frames := 7, cells := 0, slots := 0, locals := 164 }
set_option maxRecDepth 100000 in
set_option maxHeartbeats 4000000 in
theorem c_X11_takes (l : Launch) (X : XT) (fu : Nat) (p1 : Int32) (M : Mem)  (rs : Mem) (hf : f_X11_takes fu p1 M = some rs) (sz : Nat) : Met l yX11_takes (wbig yX11_takes cX11_takes 5 none) rm_X11_takes (va_Pc [.ref (X.2.2 0), .int p1] (PW LM X M sz)) (QV LM X rs sz) 0 0 (AX LM X sz) := by
  refine met_go (L := LM) (M := M) (by decide +kernel) (Nat.le_of_ble_eq_true rfl) ?_
  intro p e s m args below meth c hsz B hr hlk hw ls hl
  subst hsz
  have hx := B.hx
  have hb := B.hb
  have hl : lv_has ls 5 [(0, .ref (X.2.2 0)), (1, .int p1)] := hl
  generalize hQ : MQ below _ args s 0 0 (AX LM X s.heap.size) = Q
  unfold f_X11_takes at hf
  refine lv_aload_n hx hb dX11_takes_0 rfl (lv_at hl 0 rfl) ?_
  refine lv_iconst (v := 0) hx hb dX11_takes_1 (by decide) ?_
  refine pt_X11_345 B hw dX11_takes_2 hf (fun M_1 H locs hw hf => ?_)
  refine lv_aload_n hx hb dX11_takes_5 rfl (lv_at hl 0 rfl) ?_
  refine lv_iload_n hx hb dX11_takes_6 rfl (lv_at hl 1 rfl) ?_
  obtain ⟨r_3, h_2, hf⟩ := bd_e hf
  refine q_callVi (M' := M_1) (i := 0) (As := [.int p1]) (rest := []) B hw (c_X11_entryFor l X fu p1 M_1 r_3 h_2 _) cv_X11_408 (rc_11 B hw) rfl hl.1 rfl rfl ⟨Nat.le_of_ble_eq_true rfl, Nat.le_of_ble_eq_true rfl⟩ (Nat.le_of_ble_eq_true rfl) ⟨Nat.le_of_ble_eq_true rfl, Nat.le_of_ble_eq_true rfl⟩ dX11_takes_7 rfl (fun H locs hw => ?_)
  refine lv_istore_n (lv' := [(2, .int r_3), (0, .ref (X.2.2 0)), (1, .int p1)]) hx hb dX11_takes_10 rfl hl (by decide) rfl (fun ls hl => ?_)
  refine lv_aload_n hx hb dX11_takes_11 rfl (lv_at hl 1 rfl) ?_
  refine lv_iload_n hx hb dX11_takes_12 rfl (lv_at hl 2 rfl) ?_
  obtain ⟨r_5, h_4, hf⟩ := bd_e hf
  refine q_callVi (M' := M_1) (i := 0) (As := [.int p1]) (rest := []) B hw (c_X11_linkOf l X fu p1 M_1 r_5 h_4 _) cv_X11_390 (rc_11 B hw) rfl hl.1 rfl rfl ⟨Nat.le_of_ble_eq_true rfl, Nat.le_of_ble_eq_true rfl⟩ (Nat.le_of_ble_eq_true rfl) ⟨Nat.le_of_ble_eq_true rfl, Nat.le_of_ble_eq_true rfl⟩ dX11_takes_13 rfl (fun H locs hw => ?_)
  refine lv_istore_n (lv' := [(3, .int r_5), (2, .int r_3), (0, .ref (X.2.2 0)), (1, .int p1)]) hx hb dX11_takes_16 rfl hl (by decide) rfl (fun ls hl => ?_)
  refine lv_iconst (v := 0) hx hb dX11_takes_17 (by decide) ?_
  refine lv_istore (lv' := [(4, .int 0), (3, .int r_5), (2, .int r_3), (0, .ref (X.2.2 0)), (1, .int p1)]) hx hb dX11_takes_18 hl (by decide) rfl (fun ls hl => ?_)
  refine lv_iload_n hx hb dX11_takes_20 rfl (lv_at hl 2 rfl) ?_
  refine lv_iconst (v := (-1)) hx hb dX11_takes_21 (by decide) ?_
  refine jn_e hf (fun kk => ∀ (x4_7 : Int32) (M_8 : Mem) (H : Heap) (locs : List Loc) (ls : Array Slot), HW LM X M_8 s H locs → lv_has ls 5 [(0, .ref (X.2.2 0)), (1, .int p1), (4, .int x4_7)] → kk x4_7 M_8 = some rs → W p l e rm_X11_takes s m args below meth c H locs 0 0 Q (F0 m 128 ls [])) ?_ (fun k128_6 J128_6 hf => ?_)
  · intro x4_7 M_8 H locs ls hw hl hf
    refine lv_aload_n hx hb dX11_takes_128 rfl (lv_at hl 0 rfl) ?_
    refine gt_X11_138 B hw dX11_takes_129 ?_
    refine lv_iload_n hx hb dX11_takes_132 rfl (lv_at hl 1 rfl) ?_
    refine lv_iconst (v := 1) hx hb dX11_takes_133 (by decide) ?_
    obtain ⟨g_9, hf⟩ := grd_e hf
    refine m_zast B hw (i := 42) rfl g_9 rfl dX11_takes_134 hf (fun M_10 H locs hw hf => ?_)
    refine lv_aload_n hx hb dX11_takes_135 rfl (lv_at hl 0 rfl) ?_
    refine lv_dup hx hb dX11_takes_136 rfl ?_
    refine gt_X11_420 B hw dX11_takes_137 ?_
    refine lv_iload hx hb dX11_takes_140 (lv_at hl 2 rfl) ?_
    refine lv_bipush (v := 10) hx hb dX11_takes_142 (by decide) ?_
    refine nmv_e hf (fun kk => ∀ (H : Heap) (locs : List Loc), HW LM X M_10 s H locs → W p l e rm_X11_takes s m args below meth c H locs 0 0 Q (F0 m 154 ls [.int kk, .int (M_10 0 78), .ref (X.2.2 0)])) (fun J => ?_) (fun v_12 hf H locs hw => ?_)
    · refine lv_icmp_lt (tgt := 153) hx hb dX11_takes_144 (by decide) (fun c_11 => ?_) (fun c_11 => ?_)
      · rw [if_pos c_11] at J
        refine lv_iconst (v := 0) hx hb dX11_takes_153 (by decide) ?_
        exact J _ _ hw
      · rw [if_neg c_11] at J
        refine lv_iconst (v := 1) hx hb dX11_takes_147 (by decide) ?_
        refine lv_iload_n hx hb dX11_takes_148 rfl (lv_at hl 1 rfl) ?_
        refine lv_ishl hx hb dX11_takes_149 ?_
        refine lv_goto (tgt := 154) hx hb dX11_takes_150 (by decide) ?_
        exact J _ _ hw
    · refine lv_ior hx hb dX11_takes_154 ?_
      refine pt_X11_420 B hw dX11_takes_155 hf (fun M_13 H locs hw hf => ?_)
      refine lv_aload_n hx hb dX11_takes_158 rfl (lv_at hl 0 rfl) ?_
      refine gt_X11_186 B hw dX11_takes_159 ?_
      refine lv_aload_n hx hb dX11_takes_162 rfl (lv_at hl 0 rfl) ?_
      refine gt_X11_423 B hw dX11_takes_163 ?_
      refine lv_bipush (v := 10) hx hb dX11_takes_166 (by decide) ?_
      refine lv_iload_n hx hb dX11_takes_168 rfl (lv_at hl 1 rfl) ?_
      refine lv_imul hx hb dX11_takes_169 ?_
      refine lv_iload hx hb dX11_takes_170 (lv_at hl 2 rfl) ?_
      refine lv_bipush (v := 10) hx hb dX11_takes_172 (by decide) ?_
      refine lv_irem hx hb dX11_takes_174 (by decide) ?_
      refine lv_iadd hx hb dX11_takes_175 ?_
      obtain ⟨g_14, hf⟩ := grd_e hf
      refine m_iast B hw (i := 57) rfl g_14 dX11_takes_176 hf (fun M_15 H locs hw hf => ?_)
      refine lv_aload_n hx hb dX11_takes_177 rfl (lv_at hl 0 rfl) ?_
      refine lv_dup hx hb dX11_takes_178 rfl ?_
      refine gt_X11_423 B hw dX11_takes_179 ?_
      refine lv_iconst (v := 1) hx hb dX11_takes_182 (by decide) ?_
      refine lv_iadd hx hb dX11_takes_183 ?_
      refine pt_X11_423 B hw dX11_takes_184 hf (fun M_16 H locs hw hf => ?_)
      cases hf
      subst hQ
      exact q_vret B hr hlk hw rfl dX11_takes_187
  refine lv_icmp_eq (tgt := 34) hx hb dX11_takes_22 (by decide) (fun c_17 => ?_) (fun c_17 => ?_)
  · have hf := it_e hf c_17
    refine lv_iload_n hx hb dX11_takes_34 rfl (lv_at hl 1 rfl) ?_
    refine lv_iconst (v := (-1)) hx hb dX11_takes_35 (by decide) ?_
    refine jn_e hf (fun kk => ∀ (x4_19 : Int32) (M_20 : Mem) (H : Heap) (locs : List Loc) (ls : Array Slot), HW LM X M_20 s H locs → lv_has ls 5 [(0, .ref (X.2.2 0)), (1, .int p1), (4, .int x4_19)] → kk x4_19 M_20 = some rs → W p l e rm_X11_takes s m args below meth c H locs 0 0 Q (F0 m 101 ls [])) ?_ (fun k101_18 J101_18 hf => ?_)
    · intro x4_19 M_20 H locs ls hw hl hf
      refine lv_aload_n hx hb dX11_takes_101 rfl (lv_at hl 0 rfl) ?_
      refine gt_X11_150 B hw dX11_takes_102 ?_
      refine lv_iload_n hx hb dX11_takes_105 rfl (lv_at hl 1 rfl) ?_
      refine lv_aload_n hx hb dX11_takes_106 rfl (lv_at hl 0 rfl) ?_
      refine gt_X11_22 B hw dX11_takes_107 ?_
      refine lv_aload_n hx hb dX11_takes_110 rfl (lv_at hl 0 rfl) ?_
      refine gt_X11_65 B hw dX11_takes_111 ?_
      refine lv_iload_n hx hb dX11_takes_114 rfl (lv_at hl 1 rfl) ?_
      obtain ⟨g_21, hf⟩ := grd_e hf
      refine m_iald B hw (i := 19) rfl g_21 dX11_takes_115 ?_
      obtain ⟨g_22, hf⟩ := grd_e hf
      refine m_iald B hw (i := 5) rfl g_22 dX11_takes_116 ?_
      refine m_iast B hw (i := 46) rfl g_21 dX11_takes_117 hf (fun M_23 H locs hw hf => ?_)
      refine lv_aload_n hx hb dX11_takes_118 rfl (lv_at hl 0 rfl) ?_
      refine gt_X11_153 B hw dX11_takes_119 ?_
      refine lv_iload_n hx hb dX11_takes_122 rfl (lv_at hl 1 rfl) ?_
      refine lv_aload_n hx hb dX11_takes_123 rfl (lv_at hl 0 rfl) ?_
      refine gt_X11_242 B hw dX11_takes_124 ?_
      refine m_iast B hw (i := 47) rfl g_21 dX11_takes_127 hf (fun M_24 H locs hw hf => ?_)
      exact J128_6 x4_19 M_24 _ _ _ hw (lv_sub hl [0, 1, 2] rfl) hf
    refine jn_e hf (fun kk => ∀ (M_26 : Mem) (H : Heap) (locs : List Loc) (ls : Array Slot), HW LM X M_26 s H locs → lv_has ls 5 [(0, .ref (X.2.2 0)), (1, .int p1)] → kk M_26 = some rs → W p l e rm_X11_takes s m args below meth c H locs 0 0 Q (F0 m 83 ls [])) ?_ (fun k83_25 J83_25 hf => ?_)
    · intro M_26 H locs ls hw hl hf
      refine lv_iconst (v := 3) hx hb dX11_takes_83 (by decide) ?_
      refine lv_aload_n hx hb dX11_takes_84 rfl (lv_at hl 0 rfl) ?_
      refine lv_iload_n hx hb dX11_takes_85 rfl (lv_at hl 1 rfl) ?_
      obtain ⟨r_28, M_29, h_27, hf⟩ := bm_e hf
      refine q_callVi (M' := M_29) (i := 0) (As := [.int p1]) (rest := [.int 3]) B hw (c_X11_scans l X fu p1 M_26 (r_28, M_29) h_27 _) cv_X11_405 (rc_11 B hw) rfl hl.1 rfl rfl ⟨Nat.le_of_ble_eq_true rfl, Nat.le_of_ble_eq_true rfl⟩ (Nat.le_of_ble_eq_true rfl) ⟨Nat.le_of_ble_eq_true rfl, Nat.le_of_ble_eq_true rfl⟩ dX11_takes_86 rfl (fun H locs hw => ?_)
      refine nmv_e hf (fun kk => ∀ (H : Heap) (locs : List Loc), HW LM X M_29 s H locs → W p l e rm_X11_takes s m args below meth c H locs 0 0 Q (F0 m 98 ls [.int kk, .int 3])) (fun J => ?_) (fun v_31 hf H locs hw => ?_)
      · refine lv_if_eq (tgt := 97) hx hb dX11_takes_89 (by decide) (fun c_30 => ?_) (fun c_30 => ?_)
        · rw [if_pos c_30] at J
          refine lv_iconst (v := 0) hx hb dX11_takes_97 (by decide) ?_
          exact J _ _ hw
        · rw [if_neg c_30] at J
          refine lv_bipush (v := 10) hx hb dX11_takes_92 (by decide) ?_
          refine lv_goto (tgt := 98) hx hb dX11_takes_94 (by decide) ?_
          exact J _ _ hw
      · refine lv_iadd hx hb dX11_takes_98 ?_
        refine r_topn hf (fun x4_32 hf => ?_)
        refine lv_istore (lv' := [(4, .int x4_32), (0, .ref (X.2.2 0)), (1, .int p1)]) hx hb dX11_takes_99 hl (by decide) rfl (fun ls hl => ?_)
        exact J101_18 x4_32 M_29 _ _ _ hw (lv_sub hl [1, 2, 0] rfl) hf
    refine lv_icmp_eq (tgt := 83) hx hb dX11_takes_36 (by decide) (fun c_33 => ?_) (fun c_33 => ?_)
    · have hf := it_e hf c_33
      exact J83_25 M_1 _ _ _ hw (lv_sub hl [3, 4] rfl) hf
    · have hf := ie_e hf c_33
      refine lv_aload_n hx hb dX11_takes_39 rfl (lv_at hl 3 rfl) ?_
      refine lv_iload_n hx hb dX11_takes_40 rfl (lv_at hl 4 rfl) ?_
      refine lv_iload_n hx hb dX11_takes_41 rfl (lv_at hl 1 rfl) ?_
      obtain ⟨r_35, M_36, h_34, hf⟩ := bm_e hf
      refine q_callVi (M' := M_36) (i := 0) (As := [.int p1, .int r_5]) (rest := []) B hw (c_X11_canBind l X fu p1 r_5 M_1 (r_35, M_36) h_34 _) cv_X11_414 (rc_11 B hw) rfl hl.1 rfl rfl ⟨Nat.le_of_ble_eq_true rfl, Nat.le_of_ble_eq_true rfl⟩ (Nat.le_of_ble_eq_true rfl) ⟨Nat.le_of_ble_eq_true rfl, Nat.le_of_ble_eq_true rfl⟩ dX11_takes_42 rfl (fun H locs hw => ?_)
      refine lv_if_eq (tgt := 83) hx hb dX11_takes_45 (by decide) (fun c_37 => ?_) (fun c_37 => ?_)
      · have hf := it_e hf c_37
        exact J83_25 M_36 _ _ _ hw (lv_sub hl [3, 4] rfl) hf
      · have hf := ie_e hf c_37
        refine lv_aload_n hx hb dX11_takes_48 rfl (lv_at hl 3 rfl) ?_
        refine lv_iload_n hx hb dX11_takes_49 rfl (lv_at hl 4 rfl) ?_
        refine lv_aload_n hx hb dX11_takes_50 rfl (lv_at hl 3 rfl) ?_
        refine gt_X11_68 B hw dX11_takes_51 ?_
        refine lv_iload_n hx hb dX11_takes_54 rfl (lv_at hl 1 rfl) ?_
        obtain ⟨g_38, hf⟩ := grd_e hf
        refine m_iald B hw (i := 20) rfl g_38 dX11_takes_55 ?_
        refine lv_iload_n hx hb dX11_takes_56 rfl (lv_at hl 4 rfl) ?_
        refine nmv_e hf (fun kk => ∀ (H : Heap) (locs : List Loc), HW LM X M_36 s H locs → W p l e rm_X11_takes s m args below meth c H locs 0 0 Q (F0 m 75 ls [.int kk, .int p1, .ref (X.2.2 0)])) (fun J => ?_) (fun v_40 hf H locs hw => ?_)
        · refine lv_icmp_ne (tgt := 69) hx hb dX11_takes_57 (by decide) (fun c_39 => ?_) (fun c_39 => ?_)
          · rw [if_neg c_39] at J
            refine lv_aload_n hx hb dX11_takes_69 rfl (lv_at hl 3 rfl) ?_
            refine gt_X11_77 B hw dX11_takes_70 ?_
            refine lv_iload_n hx hb dX11_takes_73 rfl (lv_at hl 1 rfl) ?_
            refine m_iald B hw (i := 23) rfl g_38 dX11_takes_74 ?_
            exact J _ _ hw
          · rw [if_pos c_39] at J
            refine lv_aload_n hx hb dX11_takes_60 rfl (lv_at hl 3 rfl) ?_
            refine gt_X11_71 B hw dX11_takes_61 ?_
            refine lv_iload_n hx hb dX11_takes_64 rfl (lv_at hl 1 rfl) ?_
            refine m_iald B hw (i := 21) rfl g_38 dX11_takes_65 ?_
            refine lv_goto (tgt := 75) hx hb dX11_takes_66 (by decide) ?_
            exact J _ _ hw
        · obtain ⟨r_42, M_43, h_41, hf⟩ := bm_e hf
          refine q_callVi (M' := M_43) (i := 0) (As := [.int p1, .int v_40]) (rest := []) B hw (c_X11_binds l X fu p1 v_40 M_36 (r_42, M_43) h_41 _) cv_X11_417 (rc_11 B hw) rfl hl.1 rfl rfl ⟨Nat.le_of_ble_eq_true rfl, Nat.le_of_ble_eq_true rfl⟩ (Nat.le_of_ble_eq_true rfl) ⟨Nat.le_of_ble_eq_true rfl, Nat.le_of_ble_eq_true rfl⟩ dX11_takes_75 rfl (fun H locs hw => ?_)
          refine lv_istore (lv' := [(4, .int r_42), (3, .int r_5), (2, .int r_3), (0, .ref (X.2.2 0)), (1, .int p1)]) hx hb dX11_takes_78 hl (by decide) rfl (fun ls hl => ?_)
          refine lv_goto (tgt := 101) hx hb dX11_takes_80 (by decide) ?_
          exact J101_18 r_42 M_43 _ _ _ hw (lv_sub hl [3, 4, 0] rfl) hf
  · have hf := ie_e hf c_17
    refine lv_aload_n hx hb dX11_takes_25 rfl (lv_at hl 3 rfl) ?_
    refine lv_iload_n hx hb dX11_takes_26 rfl (lv_at hl 2 rfl) ?_
    refine lv_iload_n hx hb dX11_takes_27 rfl (lv_at hl 4 rfl) ?_
    obtain ⟨M_45, h_44, hf⟩ := bd_e hf
    refine q_callVv (M' := M_45) (i := 0) (As := [.int r_3, .int p1]) (rest := []) B hw (c_X11_serves l X fu r_3 p1 M_1 M_45 h_44 _) cv_X11_411 (rc_11 B hw) rfl hl.1 rfl rfl ⟨Nat.le_of_ble_eq_true rfl, Nat.le_of_ble_eq_true rfl⟩ (Nat.le_of_ble_eq_true rfl) ⟨Nat.le_of_ble_eq_true rfl, Nat.le_of_ble_eq_true rfl⟩ dX11_takes_28 rfl (fun H locs hw => ?_)
    refine lv_goto (tgt := 128) hx hb dX11_takes_31 (by decide) ?_
    exact J128_6 0 M_45 _ _ _ hw (lv_sub hl [3, 4, 0] rfl) hf
abbrev rm_X11_laysRow : Room := { frames := 3, cells := 0, slots := 0, locals := 64 }
set_option maxRecDepth 100000 in
set_option maxHeartbeats 4000000 in
theorem c_X11_laysRow (l : Launch) (X : XT) (fu : Nat) (p1 : Int32) (p2 : Int32) (p3 : Int32) (M : Mem)  (rs : Mem) (hf : f_X11_laysRow fu p1 p2 p3 M = some rs) (sz : Nat) : Met l yX11_laysRow (wbig yX11_laysRow cX11_laysRow 7 none) rm_X11_laysRow (va_Pc [.ref (X.2.2 0), .int p1, .int p2, .int p3] (PW LM X M sz)) (QV LM X rs sz) 0 0 (AX LM X sz) := by
  refine met_go (L := LM) (M := M) (by decide +kernel) (Nat.le_of_ble_eq_true rfl) ?_
  intro p e s m args below meth c hsz B hr hlk hw ls hl
  subst hsz
  have hx := B.hx
  have hb := B.hb
  have hl : lv_has ls 7 [(0, .ref (X.2.2 0)), (1, .int p1), (2, .int p2), (3, .int p3)] := hl
  generalize hQ : MQ below _ args s 0 0 (AX LM X s.heap.size) = Q
  unfold f_X11_laysRow at hf
  refine lv_iconst (v := 4) hx hb dX11_laysRow_0 (by decide) ?_
  refine lv_bipush (v := 12) hx hb dX11_laysRow_1 (by decide) ?_
  refine lv_iload_n hx hb dX11_laysRow_3 rfl (lv_at hl 1 rfl) ?_
  refine lv_imul hx hb dX11_laysRow_4 ?_
  refine lv_aload_n hx hb dX11_laysRow_5 rfl (lv_at hl 0 rfl) ?_
  refine gt_X11_159 B hw dX11_laysRow_6 ?_
  refine lv_iload_n hx hb dX11_laysRow_9 rfl (lv_at hl 1 rfl) ?_
  obtain ⟨g_1, hf⟩ := grd_e hf
  refine m_iald B hw (i := 49) rfl g_1 dX11_laysRow_10 ?_
  refine lv_iadd hx hb dX11_laysRow_11 ?_
  refine lv_imul hx hb dX11_laysRow_12 ?_
  refine r_topn hf (fun x4_2 hf => ?_)
  refine lv_istore (lv' := [(4, .int x4_2), (0, .ref (X.2.2 0)), (1, .int p1), (2, .int p2), (3, .int p3)]) hx hb dX11_laysRow_13 hl (by decide) rfl (fun ls hl => ?_)
  refine lv_iconst (v := 0) hx hb dX11_laysRow_15 (by decide) ?_
  refine lv_istore (lv' := [(5, .int 0), (4, .int x4_2), (0, .ref (X.2.2 0)), (1, .int p1), (2, .int p2), (3, .int p3)]) hx hb dX11_laysRow_16 hl (by decide) rfl (fun ls hl => ?_)
  refine jn_e hf (fun kk => ∀ (M_4 : Mem) (H : Heap) (locs : List Loc) (ls : Array Slot), HW LM X M_4 s H locs → lv_has ls 7 [(0, .ref (X.2.2 0)), (1, .int p1), (4, .int x4_2)] → kk M_4 = some rs → W p l e rm_X11_laysRow s m args below meth c H locs 0 0 Q (F0 m 84 ls [])) ?_ (fun k84_3 J84_3 hf => ?_)
  · intro M_4 H locs ls hw hl hf
    refine lv_iconst (v := 1) hx hb dX11_laysRow_84 (by decide) ?_
    refine lv_istore (lv' := [(5, .int 1), (0, .ref (X.2.2 0)), (1, .int p1), (4, .int x4_2)]) hx hb dX11_laysRow_85 hl (by decide) rfl (fun ls hl => ?_)
    refine lv_iconst (v := 0) hx hb dX11_laysRow_87 (by decide) ?_
    refine lv_istore (lv' := [(6, .int 0), (5, .int 1), (0, .ref (X.2.2 0)), (1, .int p1), (4, .int x4_2)]) hx hb dX11_laysRow_88 hl (by decide) rfl (fun ls hl => ?_)
    refine jn_e hf (fun kk => ∀ (x5_6 : Int32) (H : Heap) (locs : List Loc) (ls : Array Slot), HW LM X M_4 s H locs → lv_has ls 7 [(0, .ref (X.2.2 0)), (1, .int p1), (5, .int x5_6)] → kk x5_6 = some rs → W p l e rm_X11_laysRow s m args below meth c H locs 0 0 Q (F0 m 163 ls [])) ?_ (fun k163_5 J163_5 hf => ?_)
    · intro x5_6 H locs ls hw hl hf
      refine lv_aload_n hx hb dX11_laysRow_163 rfl (lv_at hl 0 rfl) ?_
      refine gt_X11_159 B hw dX11_laysRow_164 ?_
      refine lv_iload_n hx hb dX11_laysRow_167 rfl (lv_at hl 1 rfl) ?_
      refine lv_dup2_11 hx hb dX11_laysRow_168 rfl rfl ?_
      refine m_iald B hw (i := 49) rfl g_1 dX11_laysRow_169 ?_
      refine lv_iload hx hb dX11_laysRow_170 (lv_at hl 2 rfl) ?_
      refine nmv_e hf (fun kk => ∀ (H : Heap) (locs : List Loc), HW LM X M_4 s H locs → W p l e rm_X11_laysRow s m args below meth c H locs 0 0 Q (F0 m 180 ls [.int kk, .int (M_4 49 p1.toNatClampNeg), .int p1, .ref (X.2.2 49)])) (fun J => ?_) (fun v_8 hf H locs hw => ?_)
      · refine lv_if_eq (tgt := 179) hx hb dX11_laysRow_172 (by decide) (fun c_7 => ?_) (fun c_7 => ?_)
        · rw [if_pos c_7] at J
          refine lv_iconst (v := 0) hx hb dX11_laysRow_179 (by decide) ?_
          exact J _ _ hw
        · rw [if_neg c_7] at J
          refine lv_iconst (v := 1) hx hb dX11_laysRow_175 (by decide) ?_
          refine lv_goto (tgt := 180) hx hb dX11_laysRow_176 (by decide) ?_
          exact J _ _ hw
      · refine lv_iadd hx hb dX11_laysRow_180 ?_
        refine m_iast B hw (i := 49) rfl g_1 dX11_laysRow_181 hf (fun M_9 H locs hw hf => ?_)
        cases hf
        subst hQ
        exact q_vret B hr hlk hw rfl dX11_laysRow_182
    have hL_90 : ∀ (n_90 : Nat) (x5_10 : Int32) (x6_11 : Int32) (H : Heap) (locs : List Loc) (ls : Array Slot), HW LM X M_4 s H locs → lv_has ls 7 [(0, .ref (X.2.2 0)), (1, .int p1), (4, .int x4_2), (5, .int x5_10), (6, .int x6_11)] → f_X11_laysRow_L90 fu p1 x4_2 M_4 k163_5 n_90 x5_10 x6_11 = some rs → W p l e rm_X11_laysRow s m args below meth c H locs 0 0 Q (F0 m 90 ls []) := by
      intro n_90
      induction n_90 with
      | zero => intro x5_10 x6_11 H locs ls hw hl hf; exact no_none hf
      | succ n_90 ih_90 =>
        intro x5_10 x6_11 H locs ls hw hl hf
        rw [f_X11_laysRow_L90] at hf
        refine lv_iload hx hb dX11_laysRow_90 (lv_at hl 4 rfl) ?_
        refine lv_aload_n hx hb dX11_laysRow_92 rfl (lv_at hl 0 rfl) ?_
        refine gt_X11_311 B hw dX11_laysRow_93 ?_
        refine lv_icmp_ge (tgt := 163) hx hb dX11_laysRow_96 (by decide) (fun c_12 => ?_) (fun c_12 => ?_)
        · have hf := it_e hf c_12
          exact J163_5 x5_10 _ _ _ hw (lv_sub hl [0, 1, 3] rfl) hf
        · have hf := ie_e hf c_12
          refine lv_iload hx hb dX11_laysRow_99 (lv_at hl 3 rfl) ?_
          refine jn_e hf (fun kk => ∀ (_ : Unit) (H : Heap) (locs : List Loc) (ls : Array Slot), HW LM X M_4 s H locs → lv_has ls 7 [(0, .ref (X.2.2 0)), (1, .int p1), (4, .int x4_2), (6, .int x6_11)] → kk () = some rs → W p l e rm_X11_laysRow s m args below meth c H locs 0 0 Q (F0 m 154 ls [])) ?_ (fun k154_13 J154_13 hf => ?_)
          · intro _ H locs ls hw hl hf
            refine lv_iconst (v := 0) hx hb dX11_laysRow_154 (by decide) ?_
            refine lv_istore (lv' := [(5, .int 0), (0, .ref (X.2.2 0)), (1, .int p1), (4, .int x4_2), (6, .int x6_11)]) hx hb dX11_laysRow_155 hl (by decide) rfl (fun ls hl => ?_)
            refine r_iinc (v := (x6_11 + 1)) hx hb dX11_laysRow_157 hl (k := 4) rfl rfl (by decide) hf (fun x6_14 ls hl hf => ?_)
            have hl : lv_has ls 7 [(6, .int x6_14), (5, .int 0), (0, .ref (X.2.2 0)), (1, .int p1), (4, .int x4_2)] := hl
            refine lv_goto (tgt := 90) hx hb dX11_laysRow_160 (by decide) ?_
            exact ih_90 0 x6_14 _ _ _ hw (lv_sub hl [2, 3, 4, 1, 0] rfl) hf
          refine lv_if_eq (tgt := 154) hx hb dX11_laysRow_101 (by decide) (fun c_15 => ?_) (fun c_15 => ?_)
          · have hf := it_e hf c_15
            exact J154_13 () _ _ _ hw (lv_sub hl [0, 1, 2, 4] rfl) hf
          · have hf := ie_e hf c_15
            refine lv_aload_n hx hb dX11_laysRow_104 rfl (lv_at hl 0 rfl) ?_
            refine gt_X11_80 B hw dX11_laysRow_105 ?_
            refine lv_iload hx hb dX11_laysRow_108 (lv_at hl 4 rfl) ?_
            obtain ⟨g_16, hf⟩ := grd_e hf
            refine m_iald B hw (i := 24) rfl g_16 dX11_laysRow_110 ?_
            refine lv_iload_n hx hb dX11_laysRow_111 rfl (lv_at hl 1 rfl) ?_
            refine jn_e hf (fun kk => ∀ (_ : Unit) (H : Heap) (locs : List Loc) (ls : Array Slot), HW LM X M_4 s H locs → lv_has ls 7 [(0, .ref (X.2.2 0)), (1, .int p1), (4, .int x4_2), (6, .int x6_11)] → kk () = some rs → W p l e rm_X11_laysRow s m args below meth c H locs 0 0 Q (F0 m 150 ls [])) ?_ (fun k150_17 J150_17 hf => ?_)
            · intro _ H locs ls hw hl hf
              refine lv_iconst (v := 1) hx hb dX11_laysRow_150 (by decide) ?_
              refine lv_goto (tgt := 155) hx hb dX11_laysRow_151 (by decide) ?_
              refine lv_istore (lv' := [(5, .int 1), (0, .ref (X.2.2 0)), (1, .int p1), (4, .int x4_2), (6, .int x6_11)]) hx hb dX11_laysRow_155 hl (by decide) rfl (fun ls hl => ?_)
              refine r_iinc (v := (x6_11 + 1)) hx hb dX11_laysRow_157 hl (k := 4) rfl rfl (by decide) hf (fun x6_18 ls hl hf => ?_)
              have hl : lv_has ls 7 [(6, .int x6_18), (5, .int 1), (0, .ref (X.2.2 0)), (1, .int p1), (4, .int x4_2)] := hl
              refine lv_goto (tgt := 90) hx hb dX11_laysRow_160 (by decide) ?_
              exact ih_90 1 x6_18 _ _ _ hw (lv_sub hl [2, 3, 4, 1, 0] rfl) hf
            refine lv_icmp_ne (tgt := 150) hx hb dX11_laysRow_112 (by decide) (fun c_19 => ?_) (fun c_19 => ?_)
            · have hf := ie_e hf c_19
              exact J150_17 () _ _ _ hw (lv_sub hl [0, 1, 2, 4] rfl) hf
            · have hf := it_e hf c_19
              refine lv_aload_n hx hb dX11_laysRow_115 rfl (lv_at hl 0 rfl) ?_
              refine gt_X11_86 B hw dX11_laysRow_116 ?_
              refine lv_iload hx hb dX11_laysRow_119 (lv_at hl 4 rfl) ?_
              refine m_iald B hw (i := 26) rfl g_16 dX11_laysRow_121 ?_
              refine lv_aload_n hx hb dX11_laysRow_122 rfl (lv_at hl 0 rfl) ?_
              refine gt_X11_89 B hw dX11_laysRow_123 ?_
              refine lv_iload hx hb dX11_laysRow_126 (lv_at hl 4 rfl) ?_
              refine m_iald B hw (i := 27) rfl g_16 dX11_laysRow_128 ?_
              refine lv_aload_n hx hb dX11_laysRow_129 rfl (lv_at hl 0 rfl) ?_
              refine gt_X11_162 B hw dX11_laysRow_130 ?_
              refine lv_iload hx hb dX11_laysRow_133 (lv_at hl 2 rfl) ?_
              refine lv_aload_n hx hb dX11_laysRow_135 rfl (lv_at hl 0 rfl) ?_
              refine gt_X11_83 B hw dX11_laysRow_136 ?_
              refine lv_iload hx hb dX11_laysRow_139 (lv_at hl 4 rfl) ?_
              refine m_iald B hw (i := 25) rfl g_16 dX11_laysRow_141 ?_
              refine lv_iadd hx hb dX11_laysRow_142 ?_
              obtain ⟨g_20, hf⟩ := grd_e hf
              refine m_iald B hw (i := 50) rfl g_20 dX11_laysRow_143 ?_
              refine q_callSi (M' := M_4) (As := [.int (M_4 26 x6_11.toNatClampNeg), .int (M_4 27 x6_11.toNatClampNeg), .int (M_4 50 (x4_2 + (M_4 25 x6_11.toNatClampNeg)).toNatClampNeg)]) (rest := []) B hw (c_X11_holds l X (M_4 26 x6_11.toNatClampNeg) (M_4 27 x6_11.toNatClampNeg) (M_4 50 (x4_2 + (M_4 25 x6_11.toNatClampNeg)).toNatClampNeg) _ rfl M_4 _) cs_X11_327 rfl hl.1 rfl rfl ⟨Nat.le_of_ble_eq_true rfl, Nat.le_of_ble_eq_true rfl⟩ (Nat.le_of_ble_eq_true rfl) ⟨Nat.le_of_ble_eq_true rfl, Nat.le_of_ble_eq_true rfl⟩ dX11_laysRow_144 rfl (fun H locs hw => ?_)
              refine lv_if_eq (tgt := 154) hx hb dX11_laysRow_147 (by decide) (fun c_21 => ?_) (fun c_21 => ?_)
              · have hf := it_e hf c_21
                exact J154_13 () _ _ _ hw (lv_sub hl [0, 1, 2, 4] rfl) hf
              · have hf := ie_e hf c_21
                exact J150_17 () _ _ _ hw (lv_sub hl [0, 1, 2, 4] rfl) hf
    exact hL_90 fu 1 0 _ _ _ hw (lv_sub hl [2, 3, 4, 1, 0] rfl) hf
  have hL_18 : ∀ (n_18 : Nat) (x5_22 : Int32) (M_23 : Mem) (H : Heap) (locs : List Loc) (ls : Array Slot), HW LM X M_23 s H locs → lv_has ls 7 [(0, .ref (X.2.2 0)), (1, .int p1), (2, .int p2), (3, .int p3), (4, .int x4_2), (5, .int x5_22)] → f_X11_laysRow_L18 fu p1 p2 p3 x4_2 k84_3 n_18 x5_22 M_23 = some rs → W p l e rm_X11_laysRow s m args below meth c H locs 0 0 Q (F0 m 18 ls []) := by
    intro n_18
    induction n_18 with
    | zero => intro x5_22 M_23 H locs ls hw hl hf; exact no_none hf
    | succ n_18 ih_18 =>
      intro x5_22 M_23 H locs ls hw hl hf
      rw [f_X11_laysRow_L18] at hf
      refine lv_iload hx hb dX11_laysRow_18 (lv_at hl 5 rfl) ?_
      refine lv_iconst (v := 4) hx hb dX11_laysRow_20 (by decide) ?_
      refine lv_icmp_ge (tgt := 84) hx hb dX11_laysRow_21 (by decide) (fun c_24 => ?_) (fun c_24 => ?_)
      · have hf := it_e hf c_24
        exact J84_3 M_23 _ _ _ hw (lv_sub hl [0, 1, 4] rfl) hf
      · have hf := ie_e hf c_24
        refine lv_aload_n hx hb dX11_laysRow_24 rfl (lv_at hl 0 rfl) ?_
        refine gt_X11_162 B hw dX11_laysRow_25 ?_
        refine lv_iload hx hb dX11_laysRow_28 (lv_at hl 4 rfl) ?_
        refine lv_iload hx hb dX11_laysRow_30 (lv_at hl 5 rfl) ?_
        refine lv_iadd hx hb dX11_laysRow_32 ?_
        refine lv_iload_n hx hb dX11_laysRow_33 rfl (lv_at hl 2 rfl) ?_
        refine jn_e hf (fun kk => ∀ (v_26 : Int32) (H : Heap) (locs : List Loc) (ls : Array Slot), HW LM X M_23 s H locs → lv_has ls 7 [(0, .ref (X.2.2 0)), (1, .int p1), (2, .int p2), (3, .int p3), (4, .int x4_2), (5, .int x5_22)] → kk v_26 = some rs → W p l e rm_X11_laysRow s m args below meth c H locs 0 0 Q (F0 m 77 ls [.int v_26, .int (x4_2 + x5_22), .ref (X.2.2 50)])) ?_ (fun k77_25 J77_25 hf => ?_)
        · intro v_26 H locs ls hw hl hf
          obtain ⟨g_27, hf⟩ := grd_e hf
          refine m_iast B hw (i := 50) rfl g_27 dX11_laysRow_77 hf (fun M_28 H locs hw hf => ?_)
          refine r_iinc (v := (x5_22 + 1)) hx hb dX11_laysRow_78 hl (k := 5) rfl rfl (by decide) hf (fun x5_29 ls hl hf => ?_)
          have hl : lv_has ls 7 [(5, .int x5_29), (0, .ref (X.2.2 0)), (1, .int p1), (2, .int p2), (3, .int p3), (4, .int x4_2)] := hl
          refine lv_goto (tgt := 18) hx hb dX11_laysRow_81 (by decide) ?_
          exact ih_18 x5_29 M_28 _ _ _ hw (lv_sub hl [1, 2, 3, 4, 5, 0] rfl) hf
        refine lv_if_eq (tgt := 56) hx hb dX11_laysRow_34 (by decide) (fun c_30 => ?_) (fun c_30 => ?_)
        · have hf := it_e hf c_30
          refine lv_aload_n hx hb dX11_laysRow_56 rfl (lv_at hl 0 rfl) ?_
          refine gt_X11_16 B hw dX11_laysRow_57 ?_
          refine lv_iconst (v := 4) hx hb dX11_laysRow_60 (by decide) ?_
          refine lv_bipush (v := 12) hx hb dX11_laysRow_61 (by decide) ?_
          refine lv_aload_n hx hb dX11_laysRow_63 rfl (lv_at hl 0 rfl) ?_
          refine gt_X11_65 B hw dX11_laysRow_64 ?_
          refine lv_iload_n hx hb dX11_laysRow_67 rfl (lv_at hl 1 rfl) ?_
          obtain ⟨g_31, hf⟩ := grd_e hf
          refine m_iald B hw (i := 19) rfl g_31 dX11_laysRow_68 ?_
          refine lv_imul hx hb dX11_laysRow_69 ?_
          refine lv_iload_n hx hb dX11_laysRow_70 rfl (lv_at hl 3 rfl) ?_
          refine lv_iadd hx hb dX11_laysRow_71 ?_
          refine lv_imul hx hb dX11_laysRow_72 ?_
          refine lv_iload hx hb dX11_laysRow_73 (lv_at hl 5 rfl) ?_
          refine lv_iadd hx hb dX11_laysRow_75 ?_
          obtain ⟨g_32, hf⟩ := grd_e hf
          refine m_iald B hw (i := 3) rfl g_32 dX11_laysRow_76 ?_
          exact J77_25 (M_23 3 ((4 * ((12 * (M_23 19 p1.toNatClampNeg)) + p3)) + x5_22).toNatClampNeg) _ _ _ hw (lv_sub hl [0, 1, 2, 3, 4, 5] rfl) hf
        · have hf := ie_e hf c_30
          refine lv_aload_n hx hb dX11_laysRow_37 rfl (lv_at hl 0 rfl) ?_
          refine gt_X11_147 B hw dX11_laysRow_38 ?_
          refine lv_iconst (v := 4) hx hb dX11_laysRow_41 (by decide) ?_
          refine lv_bipush (v := 12) hx hb dX11_laysRow_42 (by decide) ?_
          refine lv_iload_n hx hb dX11_laysRow_44 rfl (lv_at hl 1 rfl) ?_
          refine lv_imul hx hb dX11_laysRow_45 ?_
          refine lv_iload_n hx hb dX11_laysRow_46 rfl (lv_at hl 3 rfl) ?_
          refine lv_iadd hx hb dX11_laysRow_47 ?_
          refine lv_imul hx hb dX11_laysRow_48 ?_
          refine lv_iload hx hb dX11_laysRow_49 (lv_at hl 5 rfl) ?_
          refine lv_iadd hx hb dX11_laysRow_51 ?_
          obtain ⟨g_33, hf⟩ := grd_e hf
          refine m_iald B hw (i := 45) rfl g_33 dX11_laysRow_52 ?_
          refine lv_goto (tgt := 77) hx hb dX11_laysRow_53 (by decide) ?_
          exact J77_25 (M_23 45 ((4 * ((12 * p1) + p3)) + x5_22).toNatClampNeg) _ _ _ hw (lv_sub hl [0, 1, 2, 3, 4, 5] rfl) hf
  exact hL_18 fu 0 M _ _ _ hw (lv_sub hl [2, 3, 4, 5, 1, 0] rfl) hf
abbrev rm_X11_cellAt : Room := { frames := 0, cells := 0, slots := 0, locals := 0 }
set_option maxRecDepth 100000 in
set_option maxHeartbeats 4000000 in
theorem c_X11_cellAt (l : Launch) (X : XT) (fu : Nat) (p1 : Int32) (p2 : Int32) (M : Mem)  (rs : Int32) (hf : f_X11_cellAt fu p1 p2 M = some rs) (sz : Nat) : Met l yX11_cellAt (wbig yX11_cellAt cX11_cellAt 3 (some .int)) rm_X11_cellAt (va_Pc [.ref (X.2.2 0), .int p1, .int p2] (PW LM X M sz)) (QI LM X M rs sz) 0 0 (AX LM X sz) := by
  refine met_go (L := LM) (M := M) (by decide +kernel) (Nat.le_of_ble_eq_true rfl) ?_
  intro p e s m args below meth c hsz B hr hlk hw ls hl
  subst hsz
  have hx := B.hx
  have hb := B.hb
  have hl : lv_has ls 3 [(0, .ref (X.2.2 0)), (1, .int p1), (2, .int p2)] := hl
  generalize hQ : MQ below _ args s 0 0 (AX LM X s.heap.size) = Q
  unfold f_X11_cellAt at hf
  refine lv_aload_n hx hb dX11_cellAt_0 rfl (lv_at hl 0 rfl) ?_
  refine gt_X11_162 B hw dX11_cellAt_1 ?_
  refine lv_iconst (v := 4) hx hb dX11_cellAt_4 (by decide) ?_
  refine lv_bipush (v := 12) hx hb dX11_cellAt_5 (by decide) ?_
  refine lv_iload_n hx hb dX11_cellAt_7 rfl (lv_at hl 1 rfl) ?_
  refine lv_imul hx hb dX11_cellAt_8 ?_
  refine lv_aload_n hx hb dX11_cellAt_9 rfl (lv_at hl 0 rfl) ?_
  refine gt_X11_165 B hw dX11_cellAt_10 ?_
  refine lv_iload_n hx hb dX11_cellAt_13 rfl (lv_at hl 1 rfl) ?_
  obtain ⟨g_1, hf⟩ := grd_e hf
  refine m_iald B hw (i := 51) rfl g_1 dX11_cellAt_14 ?_
  refine lv_iadd hx hb dX11_cellAt_15 ?_
  refine lv_imul hx hb dX11_cellAt_16 ?_
  refine lv_iload_n hx hb dX11_cellAt_17 rfl (lv_at hl 2 rfl) ?_
  refine lv_iadd hx hb dX11_cellAt_18 ?_
  obtain ⟨g_2, hf⟩ := grd_e hf
  refine m_iald B hw (i := 50) rfl g_2 dX11_cellAt_19 ?_
  cases hf
  subst hQ
  exact q_iret B hr hlk hw rfl rfl dX11_cellAt_20
abbrev rm_X11_areLinked : Room := { frames := 2, cells := 0, slots := 0, locals := 42 }
set_option maxRecDepth 100000 in
set_option maxHeartbeats 4000000 in
theorem c_X11_areLinked (l : Launch) (X : XT) (fu : Nat) (M : Mem)  (rs : Int32) (hf : f_X11_areLinked fu M = some rs) (sz : Nat) : Met l yX11_areLinked (wbig yX11_areLinked cX11_areLinked 4 (some .boolean)) rm_X11_areLinked (va_Pc [.ref (X.2.2 0)] (PW LM X M sz)) (QI LM X M rs sz) 0 0 (AX LM X sz) := by
  refine met_go (L := LM) (M := M) (by decide +kernel) (Nat.le_of_ble_eq_true rfl) ?_
  intro p e s m args below meth c hsz B hr hlk hw ls hl
  subst hsz
  have hx := B.hx
  have hb := B.hb
  have hl : lv_has ls 4 [(0, .ref (X.2.2 0))] := hl
  generalize hQ : MQ below _ args s 0 0 (AX LM X s.heap.size) = Q
  unfold f_X11_areLinked at hf
  refine lv_iconst (v := 1) hx hb dX11_areLinked_0 (by decide) ?_
  refine lv_istore_n (lv' := [(1, .int 1), (0, .ref (X.2.2 0))]) hx hb dX11_areLinked_1 rfl hl (by decide) rfl (fun ls hl => ?_)
  refine lv_iconst (v := 0) hx hb dX11_areLinked_2 (by decide) ?_
  refine lv_istore_n (lv' := [(2, .int 0), (1, .int 1), (0, .ref (X.2.2 0))]) hx hb dX11_areLinked_3 rfl hl (by decide) rfl (fun ls hl => ?_)
  have hL_4 : ∀ (n_4 : Nat) (x1_1 : Int32) (x2_2 : Int32) (H : Heap) (locs : List Loc) (ls : Array Slot), HW LM X M s H locs → lv_has ls 4 [(0, .ref (X.2.2 0)), (1, .int x1_1), (2, .int x2_2)] → f_X11_areLinked_L4 fu M n_4 x1_1 x2_2 = some rs → W p l e rm_X11_areLinked s m args below meth c H locs 0 0 Q (F0 m 4 ls []) := by
    intro n_4
    induction n_4 with
    | zero => intro x1_1 x2_2 H locs ls hw hl hf; exact no_none hf
    | succ n_4 ih_4 =>
      intro x1_1 x2_2 H locs ls hw hl hf
      rw [f_X11_areLinked_L4] at hf
      refine lv_iload_n hx hb dX11_areLinked_4 rfl (lv_at hl 2 rfl) ?_
      refine lv_aload_n hx hb dX11_areLinked_5 rfl (lv_at hl 0 rfl) ?_
      refine gt_X11_308 B hw dX11_areLinked_6 ?_
      refine lv_icmp_ge (tgt := 72) hx hb dX11_areLinked_9 (by decide) (fun c_3 => ?_) (fun c_3 => ?_)
      · have hf := it_e hf c_3
        refine lv_iload_n hx hb dX11_areLinked_72 rfl (lv_at hl 1 rfl) ?_
        obtain ⟨g_4, hf⟩ := grd_e hf
        cases hf
        subst hQ
        exact q_zret B hr hlk g_4 hw rfl rfl dX11_areLinked_73
      · have hf := ie_e hf c_3
        refine lv_aload_n hx hb dX11_areLinked_12 rfl (lv_at hl 0 rfl) ?_
        refine lv_aload_n hx hb dX11_areLinked_13 rfl (lv_at hl 0 rfl) ?_
        refine gt_X11_68 B hw dX11_areLinked_14 ?_
        refine lv_iload_n hx hb dX11_areLinked_17 rfl (lv_at hl 2 rfl) ?_
        obtain ⟨g_5, hf⟩ := grd_e hf
        refine m_iald B hw (i := 20) rfl g_5 dX11_areLinked_18 ?_
        refine lv_aload_n hx hb dX11_areLinked_19 rfl (lv_at hl 0 rfl) ?_
        refine gt_X11_71 B hw dX11_areLinked_20 ?_
        refine lv_iload_n hx hb dX11_areLinked_23 rfl (lv_at hl 2 rfl) ?_
        refine m_iald B hw (i := 21) rfl g_5 dX11_areLinked_24 ?_
        obtain ⟨r_7, h_6, hf⟩ := bd_e hf
        refine q_callVi (M' := M) (i := 0) (As := [.int (M 20 x2_2.toNatClampNeg), .int (M 21 x2_2.toNatClampNeg)]) (rest := []) B hw (c_X11_cellAt l X fu (M 20 x2_2.toNatClampNeg) (M 21 x2_2.toNatClampNeg) M r_7 h_6 _) cv_X11_426 (rc_11 B hw) rfl hl.1 rfl rfl ⟨Nat.le_of_ble_eq_true rfl, Nat.le_of_ble_eq_true rfl⟩ (Nat.le_of_ble_eq_true rfl) ⟨Nat.le_of_ble_eq_true rfl, Nat.le_of_ble_eq_true rfl⟩ dX11_areLinked_25 rfl (fun H locs hw => ?_)
        refine lv_istore_n (lv' := [(3, .int r_7), (0, .ref (X.2.2 0)), (1, .int x1_1), (2, .int x2_2)]) hx hb dX11_areLinked_28 rfl hl (by decide) rfl (fun ls hl => ?_)
        refine lv_iload_n hx hb dX11_areLinked_29 rfl (lv_at hl 2 rfl) ?_
        refine jn_e hf (fun kk => ∀ (_ : Unit) (H : Heap) (locs : List Loc) (ls : Array Slot), HW LM X M s H locs → lv_has ls 4 [(0, .ref (X.2.2 0)), (2, .int x2_2)] → kk () = some rs → W p l e rm_X11_areLinked s m args below meth c H locs 0 0 Q (F0 m 64 ls [])) ?_ (fun k64_8 J64_8 hf => ?_)
        · intro _ H locs ls hw hl hf
          refine lv_iconst (v := 0) hx hb dX11_areLinked_64 (by decide) ?_
          refine lv_istore_n (lv' := [(1, .int 0), (0, .ref (X.2.2 0)), (2, .int x2_2)]) hx hb dX11_areLinked_65 rfl hl (by decide) rfl (fun ls hl => ?_)
          refine r_iinc (v := (x2_2 + 1)) hx hb dX11_areLinked_66 hl (k := 2) rfl rfl (by decide) hf (fun x2_9 ls hl hf => ?_)
          have hl : lv_has ls 4 [(2, .int x2_9), (1, .int 0), (0, .ref (X.2.2 0))] := hl
          refine lv_goto (tgt := 4) hx hb dX11_areLinked_69 (by decide) ?_
          exact ih_4 0 x2_9 _ _ _ hw (lv_sub hl [2, 1, 0] rfl) hf
        refine lv_if_eq (tgt := 64) hx hb dX11_areLinked_30 (by decide) (fun c_10 => ?_) (fun c_10 => ?_)
        · have hf := it_e hf c_10
          exact J64_8 () _ _ _ hw (lv_sub hl [1, 3] rfl) hf
        · have hf := ie_e hf c_10
          refine lv_iload_n hx hb dX11_areLinked_33 rfl (lv_at hl 0 rfl) ?_
          refine q_callSi (M' := M) (As := [.int r_7]) (rest := []) B hw (c_X11_isNumber l X r_7 _ rfl M _) cs_X11_228 rfl hl.1 rfl rfl ⟨Nat.le_of_ble_eq_true rfl, Nat.le_of_ble_eq_true rfl⟩ (Nat.le_of_ble_eq_true rfl) ⟨Nat.le_of_ble_eq_true rfl, Nat.le_of_ble_eq_true rfl⟩ dX11_areLinked_34 rfl (fun H locs hw => ?_)
          refine lv_if_eq (tgt := 64) hx hb dX11_areLinked_37 (by decide) (fun c_11 => ?_) (fun c_11 => ?_)
          · have hf := it_e hf c_11
            exact J64_8 () _ _ _ hw (lv_sub hl [1, 3] rfl) hf
          · have hf := ie_e hf c_11
            refine lv_iload_n hx hb dX11_areLinked_40 rfl (lv_at hl 0 rfl) ?_
            refine lv_aload_n hx hb dX11_areLinked_41 rfl (lv_at hl 1 rfl) ?_
            refine lv_aload_n hx hb dX11_areLinked_42 rfl (lv_at hl 1 rfl) ?_
            refine gt_X11_74 B hw dX11_areLinked_43 ?_
            refine lv_iload_n hx hb dX11_areLinked_46 rfl (lv_at hl 3 rfl) ?_
            refine m_iald B hw (i := 22) rfl g_5 dX11_areLinked_47 ?_
            refine lv_aload_n hx hb dX11_areLinked_48 rfl (lv_at hl 1 rfl) ?_
            refine gt_X11_77 B hw dX11_areLinked_49 ?_
            refine lv_iload_n hx hb dX11_areLinked_52 rfl (lv_at hl 3 rfl) ?_
            refine m_iald B hw (i := 23) rfl g_5 dX11_areLinked_53 ?_
            obtain ⟨r_13, h_12, hf⟩ := bd_e hf
            refine q_callVi (M' := M) (i := 0) (As := [.int (M 22 x2_2.toNatClampNeg), .int (M 23 x2_2.toNatClampNeg)]) (rest := [.int r_7]) B hw (c_X11_cellAt l X fu (M 22 x2_2.toNatClampNeg) (M 23 x2_2.toNatClampNeg) M r_13 h_12 _) cv_X11_426 (rc_11 B hw) rfl hl.1 rfl rfl ⟨Nat.le_of_ble_eq_true rfl, Nat.le_of_ble_eq_true rfl⟩ (Nat.le_of_ble_eq_true rfl) ⟨Nat.le_of_ble_eq_true rfl, Nat.le_of_ble_eq_true rfl⟩ dX11_areLinked_54 rfl (fun H locs hw => ?_)
            refine lv_icmp_ne (tgt := 64) hx hb dX11_areLinked_57 (by decide) (fun c_14 => ?_) (fun c_14 => ?_)
            · have hf := ie_e hf c_14
              exact J64_8 () _ _ _ hw (lv_sub hl [1, 3] rfl) hf
            · have hf := it_e hf c_14
              refine lv_iconst (v := 1) hx hb dX11_areLinked_60 (by decide) ?_
              refine lv_goto (tgt := 65) hx hb dX11_areLinked_61 (by decide) ?_
              refine lv_istore_n (lv' := [(1, .int 1), (3, .int r_7), (0, .ref (X.2.2 0)), (2, .int x2_2)]) hx hb dX11_areLinked_65 rfl hl (by decide) rfl (fun ls hl => ?_)
              refine r_iinc (v := (x2_2 + 1)) hx hb dX11_areLinked_66 hl (k := 3) rfl rfl (by decide) hf (fun x2_15 ls hl hf => ?_)
              have hl : lv_has ls 4 [(2, .int x2_15), (1, .int 1), (3, .int r_7), (0, .ref (X.2.2 0))] := hl
              refine lv_goto (tgt := 4) hx hb dX11_areLinked_69 (by decide) ?_
              exact ih_4 1 x2_15 _ _ _ hw (lv_sub hl [3, 1, 0] rfl) hf
  exact hL_4 fu 1 0 _ _ _ hw (lv_sub hl [2, 1, 0] rfl) hf
abbrev rm_X11_goesOn : Room := { frames := 0, cells := 0, slots := 0, locals := 0 }
set_option maxRecDepth 100000 in
set_option maxHeartbeats 4000000 in
theorem c_X11_goesOn (l : Launch) (X : XT) (fu : Nat) (M : Mem)  (rs : (Int32 × Mem)) (hf : f_X11_goesOn fu M = some rs) (sz : Nat) : Met l yX11_goesOn (wbig yX11_goesOn cX11_goesOn 2 (some .boolean)) rm_X11_goesOn (va_Pc [.ref (X.2.2 0)] (PW LM X M sz)) (QI LM X rs.2 rs.1 sz) 0 0 (AX LM X sz) := by
  refine met_go (L := LM) (M := M) (by decide +kernel) (Nat.le_of_ble_eq_true rfl) ?_
  intro p e s m args below meth c hsz B hr hlk hw ls hl
  subst hsz
  have hx := B.hx
  have hb := B.hb
  have hl : lv_has ls 2 [(0, .ref (X.2.2 0))] := hl
  generalize hQ : MQ below _ args s 0 0 (AX LM X s.heap.size) = Q
  unfold f_X11_goesOn at hf
  refine lv_aload_n hx hb dX11_goesOn_0 rfl (lv_at hl 0 rfl) ?_
  refine gt_X11_299 B hw dX11_goesOn_1 ?_
  refine lv_iconst (v := 1) hx hb dX11_goesOn_4 (by decide) ?_
  refine lv_isub hx hb dX11_goesOn_5 ?_
  refine r_topn hf (fun x1_1 hf => ?_)
  refine lv_istore_n (lv' := [(1, .int x1_1), (0, .ref (X.2.2 0))]) hx hb dX11_goesOn_6 rfl hl (by decide) rfl (fun ls hl => ?_)
  refine lv_aload_n hx hb dX11_goesOn_7 rfl (lv_at hl 1 rfl) ?_
  refine gt_X11_165 B hw dX11_goesOn_8 ?_
  refine lv_iload_n hx hb dX11_goesOn_11 rfl (lv_at hl 0 rfl) ?_
  refine lv_dup2_11 hx hb dX11_goesOn_12 rfl rfl ?_
  obtain ⟨g_2, hf⟩ := grd_e hf
  refine m_iald B hw (i := 51) rfl g_2 dX11_goesOn_13 ?_
  refine lv_iconst (v := 1) hx hb dX11_goesOn_14 (by decide) ?_
  refine lv_iadd hx hb dX11_goesOn_15 ?_
  refine m_iast B hw (i := 51) rfl g_2 dX11_goesOn_16 hf (fun M_3 H locs hw hf => ?_)
  refine jn_e hf (fun kk => ∀ (M_5 : Mem) (H : Heap) (locs : List Loc) (ls : Array Slot), HW LM X M_5 s H locs → lv_has ls 2 [(0, .ref (X.2.2 0))] → kk M_5 = some rs → W p l e rm_X11_goesOn s m args below meth c H locs 0 0 Q (F0 m 59 ls [])) ?_ (fun k59_4 J59_4 hf => ?_)
  · intro M_5 H locs ls hw hl hf
    refine lv_aload_n hx hb dX11_goesOn_59 rfl (lv_at hl 0 rfl) ?_
    refine gt_X11_165 B hw dX11_goesOn_60 ?_
    refine lv_iconst (v := 0) hx hb dX11_goesOn_63 (by decide) ?_
    refine m_iald B hw (i := 51) rfl (by decide) dX11_goesOn_64 ?_
    refine lv_aload_n hx hb dX11_goesOn_65 rfl (lv_at hl 0 rfl) ?_
    refine gt_X11_159 B hw dX11_goesOn_66 ?_
    refine lv_iconst (v := 0) hx hb dX11_goesOn_69 (by decide) ?_
    refine m_iald B hw (i := 49) rfl (by decide) dX11_goesOn_70 ?_
    refine lv_icmp_ge (tgt := 78) hx hb dX11_goesOn_71 (by decide) (fun c_6 => ?_) (fun c_6 => ?_)
    · have hf := it_e hf c_6
      refine lv_iconst (v := 0) hx hb dX11_goesOn_78 (by decide) ?_
      cases hf
      subst hQ
      exact q_zret B hr hlk rfl hw rfl rfl dX11_goesOn_79
    · have hf := ie_e hf c_6
      refine lv_iconst (v := 1) hx hb dX11_goesOn_74 (by decide) ?_
      refine lv_goto (tgt := 79) hx hb dX11_goesOn_75 (by decide) ?_
      cases hf
      subst hQ
      exact q_zret B hr hlk rfl hw rfl rfl dX11_goesOn_79
  have hL_17 : ∀ (n_17 : Nat) (x1_7 : Int32) (M_8 : Mem) (H : Heap) (locs : List Loc) (ls : Array Slot), HW LM X M_8 s H locs → lv_has ls 2 [(0, .ref (X.2.2 0)), (1, .int x1_7)] → f_X11_goesOn_L17 fu k59_4 n_17 x1_7 M_8 = some rs → W p l e rm_X11_goesOn s m args below meth c H locs 0 0 Q (F0 m 17 ls []) := by
    intro n_17
    induction n_17 with
    | zero => intro x1_7 M_8 H locs ls hw hl hf; exact no_none hf
    | succ n_17 ih_17 =>
      intro x1_7 M_8 H locs ls hw hl hf
      rw [f_X11_goesOn_L17] at hf
      refine lv_iload_n hx hb dX11_goesOn_17 rfl (lv_at hl 1 rfl) ?_
      refine lv_if_le (tgt := 59) hx hb dX11_goesOn_18 (by decide) (fun c_9 => ?_) (fun c_9 => ?_)
      · have hf := it_e hf c_9
        exact J59_4 M_8 _ _ _ hw (lv_sub hl [0] rfl) hf
      · have hf := ie_e hf c_9
        refine lv_aload_n hx hb dX11_goesOn_21 rfl (lv_at hl 0 rfl) ?_
        refine gt_X11_165 B hw dX11_goesOn_22 ?_
        refine lv_iload_n hx hb dX11_goesOn_25 rfl (lv_at hl 1 rfl) ?_
        obtain ⟨g_10, hf⟩ := grd_e hf
        refine m_iald B hw (i := 51) rfl g_10 dX11_goesOn_26 ?_
        refine lv_aload_n hx hb dX11_goesOn_27 rfl (lv_at hl 0 rfl) ?_
        refine gt_X11_159 B hw dX11_goesOn_28 ?_
        refine lv_iload_n hx hb dX11_goesOn_31 rfl (lv_at hl 1 rfl) ?_
        refine m_iald B hw (i := 49) rfl g_10 dX11_goesOn_32 ?_
        refine lv_icmp_ne (tgt := 59) hx hb dX11_goesOn_33 (by decide) (fun c_11 => ?_) (fun c_11 => ?_)
        · have hf := ie_e hf c_11
          exact J59_4 M_8 _ _ _ hw (lv_sub hl [0] rfl) hf
        · have hf := it_e hf c_11
          refine lv_aload_n hx hb dX11_goesOn_36 rfl (lv_at hl 0 rfl) ?_
          refine gt_X11_165 B hw dX11_goesOn_37 ?_
          refine lv_iload_n hx hb dX11_goesOn_40 rfl (lv_at hl 1 rfl) ?_
          refine lv_iconst (v := 0) hx hb dX11_goesOn_41 (by decide) ?_
          refine m_iast B hw (i := 51) rfl g_10 dX11_goesOn_42 hf (fun M_12 H locs hw hf => ?_)
          refine r_iinc (v := (x1_7 + (-1))) hx hb dX11_goesOn_43 hl (k := 1) rfl rfl (by decide) hf (fun x1_13 ls hl hf => ?_)
          have hl : lv_has ls 2 [(1, .int x1_13), (0, .ref (X.2.2 0))] := hl
          refine lv_aload_n hx hb dX11_goesOn_46 rfl (lv_at hl 1 rfl) ?_
          refine gt_X11_165 B hw dX11_goesOn_47 ?_
          refine lv_iload_n hx hb dX11_goesOn_50 rfl (lv_at hl 0 rfl) ?_
          refine lv_dup2_11 hx hb dX11_goesOn_51 rfl rfl ?_
          obtain ⟨g_14, hf⟩ := grd_e hf
          refine m_iald B hw (i := 51) rfl g_14 dX11_goesOn_52 ?_
          refine lv_iconst (v := 1) hx hb dX11_goesOn_53 (by decide) ?_
          refine lv_iadd hx hb dX11_goesOn_54 ?_
          refine m_iast B hw (i := 51) rfl g_14 dX11_goesOn_55 hf (fun M_15 H locs hw hf => ?_)
          refine lv_goto (tgt := 17) hx hb dX11_goesOn_56 (by decide) ?_
          exact ih_17 x1_13 M_15 _ _ _ hw (lv_sub hl [1, 0] rfl) hf
  exact hL_17 fu x1_1 M_3 _ _ _ hw (lv_sub hl [1, 0] rfl) hf
abbrev rm_X11_addsMatch : Room := { frames := 1, cells := 0, slots := 0, locals := 22 }
set_option maxRecDepth 100000 in
set_option maxHeartbeats 4000000 in
theorem c_X11_addsMatch (l : Launch) (X : XT) (fu : Nat) (M : Mem)  (rs : Mem) (hf : f_X11_addsMatch fu M = some rs) (sz : Nat) : Met l yX11_addsMatch (wbig yX11_addsMatch cX11_addsMatch 2 none) rm_X11_addsMatch (va_Pc [.ref (X.2.2 0)] (PW LM X M sz)) (QV LM X rs sz) 0 0 (AX LM X sz) := by
  refine met_go (L := LM) (M := M) (by decide +kernel) (Nat.le_of_ble_eq_true rfl) ?_
  intro p e s m args below meth c hsz B hr hlk hw ls hl
  subst hsz
  have hx := B.hx
  have hb := B.hb
  have hl : lv_has ls 2 [(0, .ref (X.2.2 0))] := hl
  generalize hQ : MQ below _ args s 0 0 (AX LM X s.heap.size) = Q
  unfold f_X11_addsMatch at hf
  refine lv_iconst (v := 0) hx hb dX11_addsMatch_0 (by decide) ?_
  refine lv_istore_n (lv' := [(1, .int 0), (0, .ref (X.2.2 0))]) hx hb dX11_addsMatch_1 rfl hl (by decide) rfl (fun ls hl => ?_)
  refine jn_e hf (fun kk => ∀ (M_2 : Mem) (H : Heap) (locs : List Loc) (ls : Array Slot), HW LM X M_2 s H locs → lv_has ls 2 [(0, .ref (X.2.2 0))] → kk M_2 = some rs → W p l e rm_X11_addsMatch s m args below meth c H locs 0 0 Q (F0 m 56 ls [])) ?_ (fun k56_1 J56_1 hf => ?_)
  · intro M_2 H locs ls hw hl hf
    refine lv_aload_n hx hb dX11_addsMatch_56 rfl (lv_at hl 0 rfl) ?_
    refine lv_dup hx hb dX11_addsMatch_57 rfl ?_
    refine gt_X11_429 B hw dX11_addsMatch_58 ?_
    refine lv_aload_n hx hb dX11_addsMatch_61 rfl (lv_at hl 0 rfl) ?_
    refine gt_X11_429 B hw dX11_addsMatch_62 ?_
    refine lv_aload_n hx hb dX11_addsMatch_65 rfl (lv_at hl 0 rfl) ?_
    refine gt_X11_98 B hw dX11_addsMatch_66 ?_
    refine nmv_e hf (fun kk => ∀ (H : Heap) (locs : List Loc), HW LM X M_2 s H locs → W p l e rm_X11_addsMatch s m args below meth c H locs 0 0 Q (F0 m 77 ls [.int kk, .int (M_2 0 68), .ref (X.2.2 0)])) (fun J => ?_) (fun v_4 hf H locs hw => ?_)
    · refine lv_icmp_ge (tgt := 76) hx hb dX11_addsMatch_69 (by decide) (fun c_3 => ?_) (fun c_3 => ?_)
      · rw [if_pos c_3] at J
        refine lv_iconst (v := 0) hx hb dX11_addsMatch_76 (by decide) ?_
        exact J _ _ hw
      · rw [if_neg c_3] at J
        refine lv_iconst (v := 1) hx hb dX11_addsMatch_72 (by decide) ?_
        refine lv_goto (tgt := 77) hx hb dX11_addsMatch_73 (by decide) ?_
        exact J _ _ hw
    · refine lv_iadd hx hb dX11_addsMatch_77 ?_
      refine pt_X11_429 B hw dX11_addsMatch_78 hf (fun M_5 H locs hw hf => ?_)
      cases hf
      subst hQ
      exact q_vret B hr hlk hw rfl dX11_addsMatch_81
  have hL_2 : ∀ (n_2 : Nat) (x1_6 : Int32) (M_7 : Mem) (H : Heap) (locs : List Loc) (ls : Array Slot), HW LM X M_7 s H locs → lv_has ls 2 [(0, .ref (X.2.2 0)), (1, .int x1_6)] → f_X11_addsMatch_L2 fu k56_1 n_2 x1_6 M_7 = some rs → W p l e rm_X11_addsMatch s m args below meth c H locs 0 0 Q (F0 m 2 ls []) := by
    intro n_2
    induction n_2 with
    | zero => intro x1_6 M_7 H locs ls hw hl hf; exact no_none hf
    | succ n_2 ih_2 =>
      intro x1_6 M_7 H locs ls hw hl hf
      rw [f_X11_addsMatch_L2] at hf
      refine lv_iload_n hx hb dX11_addsMatch_2 rfl (lv_at hl 1 rfl) ?_
      refine lv_aload_n hx hb dX11_addsMatch_3 rfl (lv_at hl 0 rfl) ?_
      refine gt_X11_314 B hw dX11_addsMatch_4 ?_
      refine lv_icmp_ge (tgt := 56) hx hb dX11_addsMatch_7 (by decide) (fun c_8 => ?_) (fun c_8 => ?_)
      · have hf := it_e hf c_8
        exact J56_1 M_7 _ _ _ hw (lv_sub hl [0] rfl) hf
      · have hf := ie_e hf c_8
        refine lv_aload_n hx hb dX11_addsMatch_10 rfl (lv_at hl 0 rfl) ?_
        refine gt_X11_429 B hw dX11_addsMatch_11 ?_
        refine lv_aload_n hx hb dX11_addsMatch_14 rfl (lv_at hl 0 rfl) ?_
        refine gt_X11_98 B hw dX11_addsMatch_15 ?_
        refine lv_icmp_ge (tgt := 56) hx hb dX11_addsMatch_18 (by decide) (fun c_9 => ?_) (fun c_9 => ?_)
        · have hf := it_e hf c_9
          exact J56_1 M_7 _ _ _ hw (lv_sub hl [0] rfl) hf
        · have hf := ie_e hf c_9
          refine lv_aload_n hx hb dX11_addsMatch_21 rfl (lv_at hl 0 rfl) ?_
          refine gt_X11_168 B hw dX11_addsMatch_22 ?_
          refine lv_iconst (v := 3) hx hb dX11_addsMatch_25 (by decide) ?_
          refine lv_aload_n hx hb dX11_addsMatch_26 rfl (lv_at hl 0 rfl) ?_
          refine gt_X11_429 B hw dX11_addsMatch_27 ?_
          refine lv_imul hx hb dX11_addsMatch_30 ?_
          refine lv_iload_n hx hb dX11_addsMatch_31 rfl (lv_at hl 1 rfl) ?_
          refine lv_iadd hx hb dX11_addsMatch_32 ?_
          refine lv_aload_n hx hb dX11_addsMatch_33 rfl (lv_at hl 0 rfl) ?_
          refine lv_aload_n hx hb dX11_addsMatch_34 rfl (lv_at hl 0 rfl) ?_
          refine gt_X11_92 B hw dX11_addsMatch_35 ?_
          refine lv_iload_n hx hb dX11_addsMatch_38 rfl (lv_at hl 1 rfl) ?_
          obtain ⟨g_10, hf⟩ := grd_e hf
          refine m_iald B hw (i := 28) rfl g_10 dX11_addsMatch_39 ?_
          refine lv_aload_n hx hb dX11_addsMatch_40 rfl (lv_at hl 0 rfl) ?_
          refine gt_X11_95 B hw dX11_addsMatch_41 ?_
          refine lv_iload_n hx hb dX11_addsMatch_44 rfl (lv_at hl 1 rfl) ?_
          refine m_iald B hw (i := 29) rfl g_10 dX11_addsMatch_45 ?_
          obtain ⟨r_12, h_11, hf⟩ := bd_e hf
          refine q_callVi (M' := M_7) (i := 0) (As := [.int (M_7 28 x1_6.toNatClampNeg), .int (M_7 29 x1_6.toNatClampNeg)]) (rest := [.int ((3 * (M_7 0 68)) + x1_6), .ref (X.2.2 52)]) B hw (c_X11_cellAt l X fu (M_7 28 x1_6.toNatClampNeg) (M_7 29 x1_6.toNatClampNeg) M_7 r_12 h_11 _) cv_X11_426 (rc_11 B hw) rfl hl.1 rfl rfl ⟨Nat.le_of_ble_eq_true rfl, Nat.le_of_ble_eq_true rfl⟩ (Nat.le_of_ble_eq_true rfl) ⟨Nat.le_of_ble_eq_true rfl, Nat.le_of_ble_eq_true rfl⟩ dX11_addsMatch_46 rfl (fun H locs hw => ?_)
          obtain ⟨g_13, hf⟩ := grd_e hf
          refine m_iast B hw (i := 52) rfl g_13 dX11_addsMatch_49 hf (fun M_14 H locs hw hf => ?_)
          refine r_iinc (v := (x1_6 + 1)) hx hb dX11_addsMatch_50 hl (k := 1) rfl rfl (by decide) hf (fun x1_15 ls hl hf => ?_)
          have hl : lv_has ls 2 [(1, .int x1_15), (0, .ref (X.2.2 0))] := hl
          refine lv_goto (tgt := 2) hx hb dX11_addsMatch_53 (by decide) ?_
          exact ih_2 x1_15 M_14 _ _ _ hw (lv_sub hl [1, 0] rfl) hf
  exact hL_2 fu 0 M _ _ _ hw (lv_sub hl [1, 0] rfl) hf
