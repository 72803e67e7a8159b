abbrev rm_L_low : Room := { frames := 0, cells := 0, slots := 0, locals := 0 }
set_option maxRecDepth 100000 in
set_option maxHeartbeats 8000000 in
theorem c_L_low (l : Launch) (ex : List (Nat × Nat)) (X : XT) (fu : Nat) (p0 : Int32) (p1 : Int32) (M : Mem)  (rs : Int32) (hf : f_L_low fu p0 p1 M = some rs) (sz : Nat) : Met l yL_low (wbig yL_low cL_low 2 (some .int)) rm_L_low (va_Pc [.int p0, .int p1] (PW (LW ex) X M sz)) (QI (LW ex) X M rs sz) 0 0 (AX (LW ex) X sz) := by
  refine met_go (L := (LW ex)) (M := M) (by decide +kernel) (Nat.le_of_ble_eq_true rfl) ?_
  intro p e s m args below meth c hsz B hr hlk hw ls hl
  subst hsz
  have hx := B.hx
  have hb := B.hb
  have hl : lv_has ls 2 [(0, .int p0), (1, .int p1)] := hl
  generalize hQ : MQ below _ args s 0 0 (AX (LW ex) X s.heap.size) = Q
  unfold f_L_low at hf
  refine lv_iload_n hx hb dL_low_0 rfl (lv_at hl 0 rfl) ?_
  refine lv_iconst (v := 1) hx hb dL_low_1 (by decide) ?_
  refine lv_iushr (v := ((p0).toUInt32 >>> ((1 : Int32).toUInt32 &&& Int32.toUInt32 31)).toInt32) hx hb dL_low_2 rfl ?_
  refine lv_iload_n hx hb dL_low_3 rfl (lv_at hl 1 rfl) ?_
  obtain ⟨g_1, hf⟩ := grd_e hf
  refine lv_irem hx hb dL_low_4 (nz_e g_1) ?_
  cases hf
  subst hQ
  exact q_iret B hr hlk hw rfl rfl dL_low_5
abbrev rm_L_code : Room := { frames := 0, cells := 0, slots := 0, locals := 0 }
set_option maxRecDepth 100000 in
set_option maxHeartbeats 8000000 in
theorem c_L_code (l : Launch) (ex : List (Nat × Nat)) (X : XT) (p0 : Int32)  (rs : Int32) (hf : f_L_code p0 = rs) (M : Mem) (sz : Nat) : Met l yL_code (wbig yL_code cL_code 1 (some .int)) rm_L_code (va_Pc [.int p0] (PW (LW ex) X M sz)) (QI (LW ex) X M rs sz) 0 0 (AX (LW ex) X sz) := by
  refine met_go (L := (LW ex)) (M := M) (by decide +kernel) (Nat.le_of_ble_eq_true rfl) ?_
  intro p e s m args below meth c hsz B hr hlk hw ls hl
  subst hsz
  have hx := B.hx
  have hb := B.hb
  have hl : lv_has ls 1 [(0, .int p0)] := hl
  generalize hQ : MQ below _ args s 0 0 (AX (LW ex) X s.heap.size) = Q
  unfold f_L_code at hf
  refine lv_iload_n hx hb dL_code_0 rfl (lv_at hl 0 rfl) ?_
  refine lv_sipush (v := 5000) hx hb dL_code_1 (by decide) ?_
  refine lv_icmp_ne (tgt := 13) hx hb dL_code_4 (by decide) (fun c_1 => ?_) (fun c_1 => ?_)
  · have hf := ie_e hf c_1
    refine lv_iload_n hx hb dL_code_13 rfl (lv_at hl 0 rfl) ?_
    refine lv_sipush (v := 5001) hx hb dL_code_14 (by decide) ?_
    refine lv_icmp_ne (tgt := 26) hx hb dL_code_17 (by decide) (fun c_2 => ?_) (fun c_2 => ?_)
    · have hf := ie_e hf c_2
      refine lv_iload_n hx hb dL_code_26 rfl (lv_at hl 0 rfl) ?_
      refine lv_sipush (v := 1000) hx hb dL_code_27 (by decide) ?_
      refine lv_iadd hx hb dL_code_30 ?_
      subst hf
      subst hQ
      exact q_iret B hr hlk hw rfl rfl dL_code_31
    · have hf := it_e hf c_2
      refine lv_sipush (v := 2001) hx hb dL_code_20 (by decide) ?_
      refine lv_goto (tgt := 31) hx hb dL_code_23 (by decide) ?_
      subst hf
      subst hQ
      exact q_iret B hr hlk hw rfl rfl dL_code_31
  · have hf := it_e hf c_1
    refine lv_sipush (v := 2000) hx hb dL_code_7 (by decide) ?_
    refine lv_goto (tgt := 31) hx hb dL_code_10 (by decide) ?_
    subst hf
    subst hQ
    exact q_iret B hr hlk hw rfl rfl dL_code_31
abbrev rm_L_packed : Room := { frames := 1, cells := 0, slots := 0, locals := 20 }
set_option maxRecDepth 100000 in
set_option maxHeartbeats 8000000 in
theorem c_L_packed (l : Launch) (ex : List (Nat × Nat)) (X : XT) (p0 : Int32) (p1 : Int32) (p2 : Int32) (p3 : Int32) (p4 : Int32)  (rs : Int64) (hf : f_L_packed p0 p1 p2 p3 p4 = rs) (M : Mem) (sz : Nat) : Met l yL_packed (wbig yL_packed cL_packed 5 (some .long)) rm_L_packed (va_Pc [.int p0, .int p1, .int p2, .int p3, .int p4] (PW (LW ex) X M sz)) (QL (LW ex) X M rs sz) 0 0 (AX (LW ex) X sz) := by
  refine met_go (L := (LW ex)) (M := M) (by decide +kernel) (Nat.le_of_ble_eq_true rfl) ?_
  intro p e s m args below meth c hsz B hr hlk hw ls hl
  subst hsz
  have hx := B.hx
  have hb := B.hb
  have hl : lv_has ls 5 [(0, .int p0), (1, .int p1), (2, .int p2), (3, .int p3), (4, .int p4)] := hl
  generalize hQ : MQ below _ args s 0 0 (AX (LW ex) X s.heap.size) = Q
  unfold f_L_packed at hf
  refine lv_iload_n hx hb dL_packed_0 rfl (lv_at hl 0 rfl) ?_
  refine lv_i2l (v := p0.toInt64) hx hb dL_packed_1 rfl ?_
  refine lv_bipush (v := 48) hx hb dL_packed_2 (by decide) ?_
  refine lv_lshl (v := (p0.toInt64 <<< ((48 : Int32).toInt64 &&& 63))) hx hb dL_packed_4 rfl ?_
  refine lv_iload_n hx hb dL_packed_5 rfl (lv_at hl 1 rfl) ?_
  refine q_callSi (M' := M) (As := [.int p1]) (rest := [.long (p0.toInt64 <<< ((48 : Int32).toInt64 &&& 63))]) B hw (c_L_code l _ X p1 _ rfl M _) cs_L_98 rfl hl.1 rfl rfl ⟨(Nat.le_of_ble_eq_true rfl), (Nat.le_of_ble_eq_true rfl)⟩ (Nat.le_of_ble_eq_true rfl) ⟨(Nat.le_of_ble_eq_true rfl), (Nat.le_of_ble_eq_true rfl)⟩ dL_packed_6 rfl (fun H locs hw => ?_)
  refine lv_i2l (v := ((f_L_code p1)).toInt64) hx hb dL_packed_9 rfl ?_
  refine lv_bipush (v := 36) hx hb dL_packed_10 (by decide) ?_
  refine lv_lshl (v := (((f_L_code p1)).toInt64 <<< ((36 : Int32).toInt64 &&& 63))) hx hb dL_packed_12 rfl ?_
  refine lv_lor hx hb dL_packed_13 ?_
  refine lv_iload_n hx hb dL_packed_14 rfl (lv_at hl 2 rfl) ?_
  refine q_callSi (M' := M) (As := [.int p2]) (rest := [.long ((p0.toInt64 <<< ((48 : Int32).toInt64 &&& 63)) ||| (((f_L_code p1)).toInt64 <<< ((36 : Int32).toInt64 &&& 63)))]) B hw (c_L_code l _ X p2 _ rfl M _) cs_L_98 rfl hl.1 rfl rfl ⟨(Nat.le_of_ble_eq_true rfl), (Nat.le_of_ble_eq_true rfl)⟩ (Nat.le_of_ble_eq_true rfl) ⟨(Nat.le_of_ble_eq_true rfl), (Nat.le_of_ble_eq_true rfl)⟩ dL_packed_15 rfl (fun H locs hw => ?_)
  refine lv_i2l (v := ((f_L_code p2)).toInt64) hx hb dL_packed_18 rfl ?_
  refine lv_bipush (v := 24) hx hb dL_packed_19 (by decide) ?_
  refine lv_lshl (v := (((f_L_code p2)).toInt64 <<< ((24 : Int32).toInt64 &&& 63))) hx hb dL_packed_21 rfl ?_
  refine lv_lor hx hb dL_packed_22 ?_
  refine lv_iload_n hx hb dL_packed_23 rfl (lv_at hl 3 rfl) ?_
  refine q_callSi (M' := M) (As := [.int p3]) (rest := [.long (((p0.toInt64 <<< ((48 : Int32).toInt64 &&& 63)) ||| (((f_L_code p1)).toInt64 <<< ((36 : Int32).toInt64 &&& 63))) ||| (((f_L_code p2)).toInt64 <<< ((24 : Int32).toInt64 &&& 63)))]) B hw (c_L_code l _ X p3 _ rfl M _) cs_L_98 rfl hl.1 rfl rfl ⟨(Nat.le_of_ble_eq_true rfl), (Nat.le_of_ble_eq_true rfl)⟩ (Nat.le_of_ble_eq_true rfl) ⟨(Nat.le_of_ble_eq_true rfl), (Nat.le_of_ble_eq_true rfl)⟩ dL_packed_24 rfl (fun H locs hw => ?_)
  refine lv_i2l (v := ((f_L_code p3)).toInt64) hx hb dL_packed_27 rfl ?_
  refine lv_bipush (v := 12) hx hb dL_packed_28 (by decide) ?_
  refine lv_lshl (v := (((f_L_code p3)).toInt64 <<< ((12 : Int32).toInt64 &&& 63))) hx hb dL_packed_30 rfl ?_
  refine lv_lor hx hb dL_packed_31 ?_
  refine lv_iload hx hb dL_packed_32 (lv_at hl 4 rfl) ?_
  refine q_callSi (M' := M) (As := [.int p4]) (rest := [.long ((((p0.toInt64 <<< ((48 : Int32).toInt64 &&& 63)) ||| (((f_L_code p1)).toInt64 <<< ((36 : Int32).toInt64 &&& 63))) ||| (((f_L_code p2)).toInt64 <<< ((24 : Int32).toInt64 &&& 63))) ||| (((f_L_code p3)).toInt64 <<< ((12 : Int32).toInt64 &&& 63)))]) B hw (c_L_code l _ X p4 _ rfl M _) cs_L_98 rfl hl.1 rfl rfl ⟨(Nat.le_of_ble_eq_true rfl), (Nat.le_of_ble_eq_true rfl)⟩ (Nat.le_of_ble_eq_true rfl) ⟨(Nat.le_of_ble_eq_true rfl), (Nat.le_of_ble_eq_true rfl)⟩ dL_packed_34 rfl (fun H locs hw => ?_)
  refine lv_i2l (v := ((f_L_code p4)).toInt64) hx hb dL_packed_37 rfl ?_
  refine lv_lor hx hb dL_packed_38 ?_
  subst hf
  subst hQ
  exact q_lret B hr hlk hw rfl rfl dL_packed_39
abbrev rm_L_at : Room := { frames := 0, cells := 0, slots := 0, locals := 0 }
set_option maxRecDepth 100000 in
set_option maxHeartbeats 8000000 in
theorem c_L_at (l : Launch) (ex : List (Nat × Nat)) (X : XT) (p0 : Int64) (p2 : Int32)  (rs : Int32) (hf : f_L_at p0 p2 = rs) (M : Mem) (sz : Nat) : Met l yL_at (wbig yL_at cL_at 4 (some .int)) rm_L_at (va_Pc [.long p0, .int p2] (PW (LW ex) X M sz)) (QI (LW ex) X M rs sz) 0 0 (AX (LW ex) X sz) := by
  refine met_go (L := (LW ex)) (M := M) (by decide +kernel) (Nat.le_of_ble_eq_true rfl) ?_
  intro p e s m args below meth c hsz B hr hlk hw ls hl
  subst hsz
  have hx := B.hx
  have hb := B.hb
  have hl : lv_has ls 4 [(0, .long p0), (2, .int p2)] := hl
  generalize hQ : MQ below _ args s 0 0 (AX (LW ex) X s.heap.size) = Q
  unfold f_L_at at hf
  refine lv_lload_n hx hb dL_at_0 rfl (lv_at hl 0 rfl) ?_
  refine lv_bipush (v := 36) hx hb dL_at_1 (by decide) ?_
  refine lv_bipush (v := 12) hx hb dL_at_3 (by decide) ?_
  refine lv_iload_n hx hb dL_at_5 rfl (lv_at hl 1 rfl) ?_
  refine lv_imul hx hb dL_at_6 ?_
  refine lv_isub hx hb dL_at_7 ?_
  refine lv_lshr (v := (p0 >>> (((36 - (12 * p2))).toInt64 &&& 63))) hx hb dL_at_8 rfl ?_
  refine lv_ldc2 (own := RL) (v := 4095) hx hb B.hown (B.hts _ (big_at 762 (by decide +kernel) (by decide +kernel))) dL_at_9 ?_
  refine lv_land hx hb dL_at_12 ?_
  refine lv_l2i (v := (((p0 >>> (((36 - (12 * p2))).toInt64 &&& 63)) &&& 4095)).toInt32) hx hb dL_at_13 rfl ?_
  refine r_topn hf (fun x3_1 hf => ?_)
  refine lv_istore_n (lv' := [(3, .int x3_1), (0, .long p0), (2, .int p2)]) hx hb dL_at_14 rfl hl (by decide) rfl (fun ls hl => ?_)
  refine lv_iload_n hx hb dL_at_15 rfl (lv_at hl 0 rfl) ?_
  refine lv_sipush (v := 2000) hx hb dL_at_16 (by decide) ?_
  refine lv_icmp_ne (tgt := 28) hx hb dL_at_19 (by decide) (fun c_2 => ?_) (fun c_2 => ?_)
  · have hf := ie_e hf c_2
    refine lv_iload_n hx hb dL_at_28 rfl (lv_at hl 0 rfl) ?_
    refine lv_sipush (v := 2001) hx hb dL_at_29 (by decide) ?_
    refine lv_icmp_ne (tgt := 41) hx hb dL_at_32 (by decide) (fun c_3 => ?_) (fun c_3 => ?_)
    · have hf := ie_e hf c_3
      refine lv_iload_n hx hb dL_at_41 rfl (lv_at hl 0 rfl) ?_
      refine lv_sipush (v := 1000) hx hb dL_at_42 (by decide) ?_
      refine lv_isub hx hb dL_at_45 ?_
      subst hf
      subst hQ
      exact q_iret B hr hlk hw rfl rfl dL_at_46
    · have hf := it_e hf c_3
      refine lv_sipush (v := 5001) hx hb dL_at_35 (by decide) ?_
      refine lv_goto (tgt := 46) hx hb dL_at_38 (by decide) ?_
      subst hf
      subst hQ
      exact q_iret B hr hlk hw rfl rfl dL_at_46
  · have hf := it_e hf c_2
    refine lv_sipush (v := 5000) hx hb dL_at_22 (by decide) ?_
    refine lv_goto (tgt := 46) hx hb dL_at_25 (by decide) ?_
    subst hf
    subst hQ
    exact q_iret B hr hlk hw rfl rfl dL_at_46
abbrev rm_L_markOf : Room := { frames := 0, cells := 0, slots := 0, locals := 0 }
set_option maxRecDepth 100000 in
set_option maxHeartbeats 8000000 in
theorem c_L_markOf (l : Launch) (ex : List (Nat × Nat)) (X : XT) (p0 : Int64)  (rs : Int32) (hf : f_L_markOf p0 = rs) (M : Mem) (sz : Nat) : Met l yL_markOf (wbig yL_markOf cL_markOf 2 (some .int)) rm_L_markOf (va_Pc [.long p0] (PW (LW ex) X M sz)) (QI (LW ex) X M rs sz) 0 0 (AX (LW ex) X sz) := by
  refine met_go (L := (LW ex)) (M := M) (by decide +kernel) (Nat.le_of_ble_eq_true rfl) ?_
  intro p e s m args below meth c hsz B hr hlk hw ls hl
  subst hsz
  have hx := B.hx
  have hb := B.hb
  have hl : lv_has ls 2 [(0, .long p0)] := hl
  generalize hQ : MQ below _ args s 0 0 (AX (LW ex) X s.heap.size) = Q
  unfold f_L_markOf at hf
  refine lv_lload_n hx hb dL_markOf_0 rfl (lv_at hl 0 rfl) ?_
  refine lv_bipush (v := 48) hx hb dL_markOf_1 (by decide) ?_
  refine lv_lshr (v := (p0 >>> ((48 : Int32).toInt64 &&& 63))) hx hb dL_markOf_3 rfl ?_
  refine lv_l2i (v := ((p0 >>> ((48 : Int32).toInt64 &&& 63))).toInt32) hx hb dL_markOf_4 rfl ?_
  subst hf
  subst hQ
  exact q_iret B hr hlk hw rfl rfl dL_markOf_5
abbrev rm_L_isNumber : Room := { frames := 0, cells := 0, slots := 0, locals := 0 }
set_option maxRecDepth 100000 in
set_option maxHeartbeats 8000000 in
theorem c_L_isNumber (l : Launch) (ex : List (Nat × Nat)) (X : XT) (p0 : Int32)  (rs : Int32) (hf : f_L_isNumber p0 = rs) (M : Mem) (sz : Nat) : Met l yL_isNumber (wbig yL_isNumber cL_isNumber 1 (some .boolean)) rm_L_isNumber (va_Pc [.int p0] (PW (LW ex) X M sz)) (QI (LW ex) X M rs sz) 0 0 (AX (LW ex) X sz) := by
  refine met_go (L := (LW ex)) (M := M) (by decide +kernel) (Nat.le_of_ble_eq_true rfl) ?_
  intro p e s m args below meth c hsz B hr hlk hw ls hl
  subst hsz
  have hx := B.hx
  have hb := B.hb
  have hl : lv_has ls 1 [(0, .int p0)] := hl
  generalize hQ : MQ below _ args s 0 0 (AX (LW ex) X s.heap.size) = Q
  unfold f_L_isNumber at hf
  refine lv_iload_n hx hb dL_isNumber_0 rfl (lv_at hl 0 rfl) ?_
  refine lv_sipush (v := (-999)) hx hb dL_isNumber_1 (by decide) ?_
  refine lv_icmp_lt (tgt := 18) hx hb dL_isNumber_4 (by decide) (fun c_1 => ?_) (fun c_1 => ?_)
  · have hf := it_e hf c_1
    refine lv_iconst (v := 0) hx hb dL_isNumber_18 (by decide) ?_
    subst hf
    subst hQ
    exact q_zret B hr hlk rfl hw rfl rfl dL_isNumber_19
  · have hf := ie_e hf c_1
    refine lv_iload_n hx hb dL_isNumber_7 rfl (lv_at hl 0 rfl) ?_
    refine lv_sipush (v := 999) hx hb dL_isNumber_8 (by decide) ?_
    refine lv_icmp_gt (tgt := 18) hx hb dL_isNumber_11 (by decide) (fun c_2 => ?_) (fun c_2 => ?_)
    · have hf := it_e hf c_2
      refine lv_iconst (v := 0) hx hb dL_isNumber_18 (by decide) ?_
      subst hf
      subst hQ
      exact q_zret B hr hlk rfl hw rfl rfl dL_isNumber_19
    · have hf := ie_e hf c_2
      refine lv_iconst (v := 1) hx hb dL_isNumber_14 (by decide) ?_
      refine lv_goto (tgt := 19) hx hb dL_isNumber_15 (by decide) ?_
      subst hf
      subst hQ
      exact q_zret B hr hlk rfl hw rfl rfl dL_isNumber_19
theorem isb_f_L_isNumber (p0 : Int32) : isb (f_L_isNumber p0) = true := by
  unfold f_L_isNumber
  try simp only [jn, nm]
  repeat' first | apply isb_ite | exact isb_0 | exact isb_1
abbrev rm_L_place : Room := { frames := 1, cells := 0, slots := 0, locals := 21 }
set_option maxRecDepth 100000 in
set_option maxHeartbeats 8000000 in
theorem c_L_place (l : Launch) (ex : List (Nat × Nat)) (X : XT) (fu : Nat) (p2 : Int32) (p3 : Int32) (M : Mem)  (rs : Int32) (hf : f_L_place fu p2 p3 M = some rs) (sz : Nat) : Met l yL_place (wbig yL_place cL_place 5 (some .int)) rm_L_place (va_Pc [.ref (X.2.2 142), .ref (X.2.2 143), .int p2, .int p3] (PW (LW ex) X M sz)) (QI (LW ex) X M rs sz) 0 0 (AX (LW ex) X sz) := by
  refine met_go (L := (LW ex)) (M := M) (by decide +kernel) (Nat.le_of_ble_eq_true rfl) ?_
  intro p e s m args below meth c hsz B hr hlk hw ls hl
  subst hsz
  have hx := B.hx
  have hb := B.hb
  have hl : lv_has ls 5 [(0, .ref (X.2.2 142)), (1, .ref (X.2.2 143)), (2, .int p2), (3, .int p3)] := hl
  generalize hQ : MQ below _ args s 0 0 (AX (LW ex) X s.heap.size) = Q
  unfold f_L_place at hf
  refine lv_iconst (v := 0) hx hb dL_place_0 (by decide) ?_
  refine lv_istore (lv' := [(4, .int 0), (0, .ref (X.2.2 142)), (1, .ref (X.2.2 143)), (2, .int p2), (3, .int p3)]) hx hb dL_place_1 hl (by decide) rfl (fun ls hl => ?_)
  have hL_3 : ∀ (n_3 : Nat) (x4_1 : Int32) (H : Heap) (locs : List Loc) (ls : Array Slot), HW (LW ex) X M s H locs → lv_has ls 5 [(0, .ref (X.2.2 142)), (1, .ref (X.2.2 143)), (2, .int p2), (3, .int p3), (4, .int x4_1)] → f_L_place_L3 fu p2 p3 M n_3 x4_1 = some rs → W p l e rm_L_place s m args below meth c H locs 0 0 Q (F0 m 3 ls []) := by
    intro n_3
    induction n_3 with
    | zero => intro x4_1 H locs ls hw hl hf; exact no_none hf
    | succ n_3 ih_3 =>
      intro x4_1 H locs ls hw hl hf
      rw [f_L_place_L3] at hf
      refine lv_iload hx hb dL_place_3 (lv_at hl 4 rfl) ?_
      refine lv_aload_n hx hb dL_place_5 rfl (lv_at hl 1 rfl) ?_
      refine lv_iload_n hx hb dL_place_6 rfl (lv_at hl 2 rfl) ?_
      obtain ⟨g_2, hf⟩ := grd_e hf
      refine w_iald B hw (i := 143) (kw143 _) g_2 dL_place_7 ?_
      refine lv_icmp_ge (tgt := 36) hx hb dL_place_8 (by decide) (fun c_3 => ?_) (fun c_3 => ?_)
      · have hf := it_e hf c_3
        refine lv_iconst (v := (-1)) hx hb dL_place_36 (by decide) ?_
        cases hf
        subst hQ
        exact q_iret B hr hlk hw rfl rfl dL_place_37
      · have hf := ie_e hf c_3
        refine lv_aload_n hx hb dL_place_11 rfl (lv_at hl 0 rfl) ?_
        refine lv_bipush (v := 10) hx hb dL_place_12 (by decide) ?_
        refine lv_iload_n hx hb dL_place_14 rfl (lv_at hl 2 rfl) ?_
        refine lv_imul hx hb dL_place_15 ?_
        refine lv_iload hx hb dL_place_16 (lv_at hl 4 rfl) ?_
        refine lv_iadd hx hb dL_place_18 ?_
        obtain ⟨g_4, hf⟩ := grd_e hf
        refine w_lald B hw (i := 142) (kw142 _) g_4 dL_place_19 ?_
        refine q_callSi (M' := M) (As := [.long (lg (M 142) ((10 * p2) + x4_1).toNatClampNeg)]) (rest := []) B hw (c_L_markOf l _ X (lg (M 142) ((10 * p2) + x4_1).toNatClampNeg) _ rfl M _) cs_L_105 rfl hl.1 rfl rfl ⟨(Nat.le_of_ble_eq_true rfl), (Nat.le_of_ble_eq_true rfl)⟩ (Nat.le_of_ble_eq_true rfl) ⟨(Nat.le_of_ble_eq_true rfl), (Nat.le_of_ble_eq_true rfl)⟩ dL_place_20 rfl (fun H locs hw => ?_)
        refine lv_iload_n hx hb dL_place_23 rfl (lv_at hl 3 rfl) ?_
        refine lv_icmp_ne (tgt := 30) hx hb dL_place_24 (by decide) (fun c_6 => ?_) (fun c_6 => ?_)
        · have hf := ie_e hf c_6
          refine r_iinc (v := (x4_1 + 1)) hx hb dL_place_30 hl (k := 4) rfl rfl (by decide) hf (fun x4_7 ls hl hf => ?_)
          have hl : lv_has ls 5 [(4, .int x4_7), (0, .ref (X.2.2 142)), (1, .ref (X.2.2 143)), (2, .int p2), (3, .int p3)] := hl
          refine lv_goto (tgt := 3) hx hb dL_place_33 (by decide) ?_
          exact ih_3 x4_7 _ _ _ hw (lv_sub hl [1, 2, 3, 4, 0] rfl) hf
        · have hf := it_e hf c_6
          refine lv_iload hx hb dL_place_27 (lv_at hl 4 rfl) ?_
          cases hf
          subst hQ
          exact q_iret B hr hlk hw rfl rfl dL_place_29
  exact hL_3 fu 0 _ _ _ hw (lv_sub hl [1, 2, 3, 4, 0] rfl) hf
abbrev rm_L_can : Room := { frames := 1, cells := 0, slots := 0, locals := 20 }
set_option maxRecDepth 100000 in
set_option maxHeartbeats 8000000 in
theorem c_L_can (l : Launch) (ex : List (Nat × Nat)) (X : XT) (p0 : Int32) (p1 : Int32) (p2 : Int32)  (rs : Int32) (hf : f_L_can p0 p1 p2 = rs) (M : Mem) (sz : Nat) : Met l yL_can (wbig yL_can cL_can 3 (some .boolean)) rm_L_can (va_Pc [.int p0, .int p1, .int p2] (PW (LW ex) X M sz)) (QI (LW ex) X M rs sz) 0 0 (AX (LW ex) X sz) := by
  refine met_go (L := (LW ex)) (M := M) (by decide +kernel) (Nat.le_of_ble_eq_true rfl) ?_
  intro p e s m args below meth c hsz B hr hlk hw ls hl
  subst hsz
  have hx := B.hx
  have hb := B.hb
  have hl : lv_has ls 3 [(0, .int p0), (1, .int p1), (2, .int p2)] := hl
  generalize hQ : MQ below _ args s 0 0 (AX (LW ex) X s.heap.size) = Q
  unfold f_L_can at hf
  refine lv_iload_n hx hb dL_can_0 rfl (lv_at hl 0 rfl) ?_
  refine lv_iconst (v := 2) hx hb dL_can_1 (by decide) ?_
  refine lv_idiv hx hb dL_can_2 (by decide) ?_
  refine lv_iconst (v := 1) hx hb dL_can_3 (by decide) ?_
  refine jn_e hf (fun kk => ∀ (_ : Unit) (H : Heap) (locs : List Loc) (ls : Array Slot), HW (LW ex) X M s H locs → lv_has ls 3 [(0, .int p0), (1, .int p1), (2, .int p2)] → kk () = rs → W p l e rm_L_can s m args below meth c H locs 0 0 Q (F0 m 22 ls [])) ?_ (fun k22_1 J22_1 hf => ?_)
  · intro _ H locs ls hw hl hf
    refine lv_iload_n hx hb dL_can_22 rfl (lv_at hl 0 rfl) ?_
    refine lv_iconst (v := 1) hx hb dL_can_23 (by decide) ?_
    refine jn_e hf (fun kk => ∀ (_ : Unit) (H : Heap) (locs : List Loc) (ls : Array Slot), HW (LW ex) X M s H locs → lv_has ls 3 [(0, .int p0), (2, .int p2)] → kk () = rs → W p l e rm_L_can s m args below meth c H locs 0 0 Q (F0 m 47 ls [])) ?_ (fun k47_2 J47_2 hf => ?_)
    · intro _ H locs ls hw hl hf
      refine lv_iload_n hx hb dL_can_47 rfl (lv_at hl 1 rfl) ?_
      refine q_callSi (M' := M) (As := [.int p2]) (rest := []) B hw (c_L_isNumber l _ X p2 _ rfl M _) cs_L_109 rfl hl.1 rfl rfl ⟨(Nat.le_of_ble_eq_true rfl), (Nat.le_of_ble_eq_true rfl)⟩ (Nat.le_of_ble_eq_true rfl) ⟨(Nat.le_of_ble_eq_true rfl), (Nat.le_of_ble_eq_true rfl)⟩ dL_can_48 rfl (fun H locs hw => ?_)
      refine lv_if_ne (tgt := 73) hx hb dL_can_51 (by decide) (fun c_4 => ?_) (fun c_4 => ?_)
      · have hf := ie_e hf c_4
        refine lv_iconst (v := 1) hx hb dL_can_73 (by decide) ?_
        refine lv_goto (tgt := 78) hx hb dL_can_74 (by decide) ?_
        subst hf
        subst hQ
        exact q_zret B hr hlk rfl hw rfl rfl dL_can_78
      · have hf := it_e hf c_4
        refine lv_iload_n hx hb dL_can_54 rfl (lv_at hl 1 rfl) ?_
        refine lv_sipush (v := 5000) hx hb dL_can_55 (by decide) ?_
        refine lv_icmp_eq (tgt := 73) hx hb dL_can_58 (by decide) (fun c_5 => ?_) (fun c_5 => ?_)
        · have hf := it_e hf c_5
          refine lv_iconst (v := 1) hx hb dL_can_73 (by decide) ?_
          refine lv_goto (tgt := 78) hx hb dL_can_74 (by decide) ?_
          subst hf
          subst hQ
          exact q_zret B hr hlk rfl hw rfl rfl dL_can_78
        · have hf := ie_e hf c_5
          refine lv_iload_n hx hb dL_can_61 rfl (lv_at hl 0 rfl) ?_
          refine lv_iconst (v := 3) hx hb dL_can_62 (by decide) ?_
          refine lv_icmp_le (tgt := 77) hx hb dL_can_63 (by decide) (fun c_6 => ?_) (fun c_6 => ?_)
          · have hf := it_e hf c_6
            refine lv_iconst (v := 0) hx hb dL_can_77 (by decide) ?_
            subst hf
            subst hQ
            exact q_zret B hr hlk rfl hw rfl rfl dL_can_78
          · have hf := ie_e hf c_6
            refine lv_iload_n hx hb dL_can_66 rfl (lv_at hl 1 rfl) ?_
            refine lv_sipush (v := 5001) hx hb dL_can_67 (by decide) ?_
            refine lv_icmp_ne (tgt := 77) hx hb dL_can_70 (by decide) (fun c_7 => ?_) (fun c_7 => ?_)
            · have hf := ie_e hf c_7
              refine lv_iconst (v := 0) hx hb dL_can_77 (by decide) ?_
              subst hf
              subst hQ
              exact q_zret B hr hlk rfl hw rfl rfl dL_can_78
            · have hf := it_e hf c_7
              refine lv_iconst (v := 1) hx hb dL_can_73 (by decide) ?_
              refine lv_goto (tgt := 78) hx hb dL_can_74 (by decide) ?_
              subst hf
              subst hQ
              exact q_zret B hr hlk rfl hw rfl rfl dL_can_78
    refine lv_icmp_le (tgt := 47) hx hb dL_can_24 (by decide) (fun c_8 => ?_) (fun c_8 => ?_)
    · have hf := it_e hf c_8
      exact J47_2 () _ _ _ hw (lv_sub hl [0, 2] rfl) hf
    · have hf := ie_e hf c_8
      refine lv_iload_n hx hb dL_can_27 rfl (lv_at hl 1 rfl) ?_
      refine lv_if_ne (tgt := 47) hx hb dL_can_28 (by decide) (fun c_9 => ?_) (fun c_9 => ?_)
      · have hf := ie_e hf c_9
        exact J47_2 () _ _ _ hw (lv_sub hl [0, 2] rfl) hf
      · have hf := it_e hf c_9
        refine lv_iload_n hx hb dL_can_31 rfl (lv_at hl 2 rfl) ?_
        refine lv_if_lt (tgt := 45) hx hb dL_can_32 (by decide) (fun c_10 => ?_) (fun c_10 => ?_)
        · have hf := it_e hf c_10
          refine lv_iconst (v := 0) hx hb dL_can_45 (by decide) ?_
          subst hf
          subst hQ
          exact q_zret B hr hlk rfl hw rfl rfl dL_can_46
        · have hf := ie_e hf c_10
          refine lv_iload_n hx hb dL_can_35 rfl (lv_at hl 2 rfl) ?_
          refine lv_bipush (v := 100) hx hb dL_can_36 (by decide) ?_
          refine lv_icmp_ge (tgt := 45) hx hb dL_can_38 (by decide) (fun c_11 => ?_) (fun c_11 => ?_)
          · have hf := it_e hf c_11
            refine lv_iconst (v := 0) hx hb dL_can_45 (by decide) ?_
            subst hf
            subst hQ
            exact q_zret B hr hlk rfl hw rfl rfl dL_can_46
          · have hf := ie_e hf c_11
            refine lv_iconst (v := 1) hx hb dL_can_41 (by decide) ?_
            refine lv_goto (tgt := 46) hx hb dL_can_42 (by decide) ?_
            subst hf
            subst hQ
            exact q_zret B hr hlk rfl hw rfl rfl dL_can_46
  refine lv_icmp_ne (tgt := 22) hx hb dL_can_4 (by decide) (fun c_12 => ?_) (fun c_12 => ?_)
  · have hf := ie_e hf c_12
    exact J22_1 () _ _ _ hw (lv_sub hl [0, 1, 2] rfl) hf
  · have hf := it_e hf c_12
    refine lv_iload_n hx hb dL_can_7 rfl (lv_at hl 1 rfl) ?_
    refine lv_iconst (v := 1) hx hb dL_can_8 (by decide) ?_
    refine lv_icmp_le (tgt := 22) hx hb dL_can_9 (by decide) (fun c_13 => ?_) (fun c_13 => ?_)
    · have hf := it_e hf c_13
      exact J22_1 () _ _ _ hw (lv_sub hl [0, 1, 2] rfl) hf
    · have hf := ie_e hf c_13
      refine lv_iload_n hx hb dL_can_12 rfl (lv_at hl 2 rfl) ?_
      refine lv_if_ne (tgt := 20) hx hb dL_can_13 (by decide) (fun c_14 => ?_) (fun c_14 => ?_)
      · have hf := ie_e hf c_14
        refine lv_iconst (v := 0) hx hb dL_can_20 (by decide) ?_
        subst hf
        subst hQ
        exact q_zret B hr hlk rfl hw rfl rfl dL_can_21
      · have hf := it_e hf c_14
        refine lv_iconst (v := 1) hx hb dL_can_16 (by decide) ?_
        refine lv_goto (tgt := 21) hx hb dL_can_17 (by decide) ?_
        subst hf
        subst hQ
        exact q_zret B hr hlk rfl hw rfl rfl dL_can_21
theorem isb_f_L_can (p0 : Int32) (p1 : Int32) (p2 : Int32) : isb (f_L_can p0 p1 p2) = true := by
  unfold f_L_can
  try simp only [jn, nm]
  repeat' first | apply isb_ite | exact isb_0 | exact isb_1 | apply isb_f_L_isNumber
abbrev rm_L_columns : Room := { frames := 0, cells := 0, slots := 0, locals := 0 }
set_option maxRecDepth 100000 in
set_option maxHeartbeats 8000000 in
theorem c_L_columns (l : Launch) (ex : List (Nat × Nat)) (X : XT) (p0 : Int32)  (rs : Int32) (hf : f_L_columns p0 = rs) (M : Mem) (sz : Nat) : Met l yL_columns (wbig yL_columns cL_columns 1 (some .int)) rm_L_columns (va_Pc [.int p0] (PW (LW ex) X M sz)) (QI (LW ex) X M rs sz) 0 0 (AX (LW ex) X sz) := by
  refine met_go (L := (LW ex)) (M := M) (by decide +kernel) (Nat.le_of_ble_eq_true rfl) ?_
  intro p e s m args below meth c hsz B hr hlk hw ls hl
  subst hsz
  have hx := B.hx
  have hb := B.hb
  have hl : lv_has ls 1 [(0, .int p0)] := hl
  generalize hQ : MQ below _ args s 0 0 (AX (LW ex) X s.heap.size) = Q
  unfold f_L_columns at hf
  refine lv_iload_n hx hb dL_columns_0 rfl (lv_at hl 0 rfl) ?_
  refine lv_iconst (v := 2) hx hb dL_columns_1 (by decide) ?_
  refine lv_idiv hx hb dL_columns_2 (by decide) ?_
  refine lv_iconst (v := 1) hx hb dL_columns_3 (by decide) ?_
  refine lv_icmp_ne (tgt := 11) hx hb dL_columns_4 (by decide) (fun c_1 => ?_) (fun c_1 => ?_)
  · have hf := ie_e hf c_1
    refine lv_iconst (v := 4) hx hb dL_columns_11 (by decide) ?_
    subst hf
    subst hQ
    exact q_iret B hr hlk hw rfl rfl dL_columns_12
  · have hf := it_e hf c_1
    refine lv_iconst (v := 2) hx hb dL_columns_7 (by decide) ?_
    refine lv_goto (tgt := 12) hx hb dL_columns_8 (by decide) ?_
    subst hf
    subst hQ
    exact q_iret B hr hlk hw rfl rfl dL_columns_12
abbrev rm_L_age : Room := { frames := 0, cells := 0, slots := 0, locals := 0 }
set_option maxRecDepth 100000 in
set_option maxHeartbeats 8000000 in
theorem c_L_age (l : Launch) (ex : List (Nat × Nat)) (X : XT) (fu : Nat) (M : Mem)  (rs : Mem) (hf : f_L_age fu M = some rs) (sz : Nat) : Met l yL_age (wbig yL_age cL_age 9 none) rm_L_age (va_Pc [.ref (X.2.2 147), .ref (X.2.2 148), .ref (X.2.2 144), .ref (X.2.2 145), .ref (X.2.2 152)] (PW (LW ex) X M sz)) (QV (LW ex) X rs sz) 0 0 (AX (LW ex) X sz) := by
  refine met_go (L := (LW ex)) (M := M) (by decide +kernel) (Nat.le_of_ble_eq_true rfl) ?_
  intro p e s m args below meth c hsz B hr hlk hw ls hl
  subst hsz
  have hx := B.hx
  have hb := B.hb
  have hl : lv_has ls 9 [(0, .ref (X.2.2 147)), (1, .ref (X.2.2 148)), (2, .ref (X.2.2 144)), (3, .ref (X.2.2 145)), (4, .ref (X.2.2 152))] := hl
  generalize hQ : MQ below _ args s 0 0 (AX (LW ex) X s.heap.size) = Q
  unfold f_L_age at hf
  refine lv_iconst (v := 0) hx hb dL_age_0 (by decide) ?_
  refine lv_istore (lv' := [(5, .int 0), (0, .ref (X.2.2 147)), (1, .ref (X.2.2 148)), (2, .ref (X.2.2 144)), (3, .ref (X.2.2 145)), (4, .ref (X.2.2 152))]) hx hb dL_age_1 hl (by decide) rfl (fun ls hl => ?_)
  refine lv_iconst (v := 0) hx hb dL_age_3 (by decide) ?_
  refine lv_istore (lv' := [(6, .int 0), (5, .int 0), (0, .ref (X.2.2 147)), (1, .ref (X.2.2 148)), (2, .ref (X.2.2 144)), (3, .ref (X.2.2 145)), (4, .ref (X.2.2 152))]) hx hb dL_age_4 hl (by decide) rfl (fun ls hl => ?_)
  refine jn_e hf (fun kk => ∀ (x5_2 : Int32) (M_3 : Mem) (H : Heap) (locs : List Loc) (ls : Array Slot), HW (LW ex) X M_3 s H locs → lv_has ls 9 [(4, .ref (X.2.2 152)), (5, .int x5_2)] → kk x5_2 M_3 = some rs → W p l e rm_L_age s m args below meth c H locs 0 0 Q (F0 m 210 ls [])) ?_ (fun k210_1 J210_1 hf => ?_)
  · intro x5_2 M_3 H locs ls hw hl hf
    refine lv_aload hx hb dL_age_210 (lv_at hl 0 rfl) ?_
    refine lv_iconst (v := 3) hx hb dL_age_212 (by decide) ?_
    refine lv_iload hx hb dL_age_213 (lv_at hl 1 rfl) ?_
    refine w_iast B hw (i := 152) (kw152 _) (by decide) dL_age_215 hf (fun M_4 H locs hw hf => ?_)
    cases hf
    subst hQ
    exact q_vret B hr hlk hw rfl dL_age_216
  have hL_6 : ∀ (n_6 : Nat) (x5_5 : Int32) (x6_6 : Int32) (M_7 : Mem) (H : Heap) (locs : List Loc) (ls : Array Slot), HW (LW ex) X M_7 s H locs → lv_has ls 9 [(0, .ref (X.2.2 147)), (1, .ref (X.2.2 148)), (2, .ref (X.2.2 144)), (3, .ref (X.2.2 145)), (4, .ref (X.2.2 152)), (5, .int x5_5), (6, .int x6_6)] → f_L_age_L6 fu k210_1 n_6 x5_5 x6_6 M_7 = some rs → W p l e rm_L_age s m args below meth c H locs 0 0 Q (F0 m 6 ls []) := by
    intro n_6
    induction n_6 with
    | zero => intro x5_5 x6_6 M_7 H locs ls hw hl hf; exact no_none hf
    | succ n_6 ih_6 =>
      intro x5_5 x6_6 M_7 H locs ls hw hl hf
      rw [f_L_age_L6] at hf
      refine lv_iload hx hb dL_age_6 (lv_at hl 6 rfl) ?_
      refine lv_aload hx hb dL_age_8 (lv_at hl 4 rfl) ?_
      refine lv_iconst (v := 3) hx hb dL_age_10 (by decide) ?_
      refine w_iald B hw (i := 152) (kw152 _) (by decide) dL_age_11 ?_
      refine lv_icmp_ge (tgt := 210) hx hb dL_age_12 (by decide) (fun c_8 => ?_) (fun c_8 => ?_)
      · have hf := it_e hf c_8
        exact J210_1 x5_5 M_7 _ _ _ hw (lv_sub hl [4, 5] rfl) hf
      · have hf := ie_e hf c_8
        refine lv_aload hx hb dL_age_15 (lv_at hl 4 rfl) ?_
        refine lv_iconst (v := 1) hx hb dL_age_17 (by decide) ?_
        refine w_iald B hw (i := 152) (kw152 _) (by decide) dL_age_18 ?_
        refine lv_aload_n hx hb dL_age_19 rfl (lv_at hl 0 rfl) ?_
        refine lv_bipush (v := 8) hx hb dL_age_20 (by decide) ?_
        refine lv_iload hx hb dL_age_22 (lv_at hl 6 rfl) ?_
        refine lv_imul hx hb dL_age_24 ?_
        refine lv_iconst (v := 1) hx hb dL_age_25 (by decide) ?_
        refine lv_iadd hx hb dL_age_26 ?_
        obtain ⟨g_9, hf⟩ := grd_e hf
        refine w_iald B hw (i := 147) (kw147 _) g_9 dL_age_27 ?_
        refine lv_isub hx hb dL_age_28 ?_
        refine lv_aload_n hx hb dL_age_29 rfl (lv_at hl 3 rfl) ?_
        refine lv_bipush (v := 12) hx hb dL_age_30 (by decide) ?_
        refine lv_aload_n hx hb dL_age_32 rfl (lv_at hl 0 rfl) ?_
        refine lv_bipush (v := 8) hx hb dL_age_33 (by decide) ?_
        refine lv_iload hx hb dL_age_35 (lv_at hl 6 rfl) ?_
        refine lv_imul hx hb dL_age_37 ?_
        obtain ⟨g_10, hf⟩ := grd_e hf
        refine w_iald B hw (i := 147) (kw147 _) g_10 dL_age_38 ?_
        refine lv_iconst (v := 2) hx hb dL_age_39 (by decide) ?_
        refine lv_idiv hx hb dL_age_40 (by decide) ?_
        refine lv_iadd hx hb dL_age_41 ?_
        obtain ⟨g_11, hf⟩ := grd_e hf
        refine w_iald B hw (i := 145) (kw145 _) g_11 dL_age_42 ?_
        refine nmv_e hf (fun kk => ∀ (H : Heap) (locs : List Loc), HW (LW ex) X M_7 s H locs → W p l e rm_L_age s m args below meth c H locs 0 0 Q (F0 m 51 ls [.int kk])) (fun J => ?_) (fun v_13 hf H locs hw => ?_)
        · refine lv_icmp_le (tgt := 50) hx hb dL_age_43 (by decide) (fun c_12 => ?_) (fun c_12 => ?_)
          · rw [if_pos (show ((M_7 152 1) - (M_7 147 ((8 * x6_6) + 1).toNatClampNeg)) ≤ (M_7 145 (12 + ((M_7 147 (8 * x6_6).toNatClampNeg) / 2)).toNatClampNeg) from c_12)] at J
            refine lv_iconst (v := 0) hx hb dL_age_50 (by decide) ?_
            exact J _ _ hw
          · rw [if_neg (show ¬ (((M_7 152 1) - (M_7 147 ((8 * x6_6) + 1).toNatClampNeg)) ≤ (M_7 145 (12 + ((M_7 147 (8 * x6_6).toNatClampNeg) / 2)).toNatClampNeg)) from c_12)] at J
            refine lv_iconst (v := 1) hx hb dL_age_46 (by decide) ?_
            refine lv_goto (tgt := 51) hx hb dL_age_47 (by decide) ?_
            exact J _ _ hw
        · refine lv_istore (lv' := [(7, .int v_13), (0, .ref (X.2.2 147)), (1, .ref (X.2.2 148)), (2, .ref (X.2.2 144)), (3, .ref (X.2.2 145)), (4, .ref (X.2.2 152)), (5, .int x5_5), (6, .int x6_6)]) hx hb dL_age_51 hl (by decide) rfl (fun ls hl => ?_)
          refine lv_aload_n hx hb dL_age_53 rfl (lv_at hl 1 rfl) ?_
          refine lv_bipush (v := 8) hx hb dL_age_54 (by decide) ?_
          refine lv_iload hx hb dL_age_56 (lv_at hl 7 rfl) ?_
          refine lv_imul hx hb dL_age_58 ?_
          refine lv_iconst (v := 2) hx hb dL_age_59 (by decide) ?_
          refine lv_iadd hx hb dL_age_60 ?_
          obtain ⟨g_14, hf⟩ := grd_e hf
          refine w_iald B hw (i := 147) (kw147 _) g_14 dL_age_61 ?_
          refine lv_iconst (v := 1) hx hb dL_age_62 (by decide) ?_
          refine lv_iadd hx hb dL_age_63 ?_
          refine r_topn hf (fun x8_15 hf => ?_)
          refine lv_istore (lv' := [(8, .int x8_15), (7, .int v_13), (0, .ref (X.2.2 147)), (1, .ref (X.2.2 148)), (2, .ref (X.2.2 144)), (3, .ref (X.2.2 145)), (4, .ref (X.2.2 152)), (5, .int x5_5), (6, .int x6_6)]) hx hb dL_age_64 hl (by decide) rfl (fun ls hl => ?_)
          refine jn_e hf (fun kk => ∀ (x7_17 : Int32) (H : Heap) (locs : List Loc) (ls : Array Slot), HW (LW ex) X M_7 s H locs → lv_has ls 9 [(0, .ref (X.2.2 147)), (1, .ref (X.2.2 148)), (2, .ref (X.2.2 144)), (3, .ref (X.2.2 145)), (4, .ref (X.2.2 152)), (5, .int x5_5), (6, .int x6_6), (7, .int x7_17)] → kk x7_17 = some rs → W p l e rm_L_age s m args below meth c H locs 0 0 Q (F0 m 121 ls [])) ?_ (fun k121_16 J121_16 hf => ?_)
          · intro x7_17 H locs ls hw hl hf
            refine lv_iload hx hb dL_age_121 (lv_at hl 7 rfl) ?_
            refine lv_if_eq (tgt := 129) hx hb dL_age_123 (by decide) (fun c_18 => ?_) (fun c_18 => ?_)
            · have hf := it_e hf c_18
              refine lv_iconst (v := 0) hx hb dL_age_129 (by decide) ?_
              refine lv_istore (lv' := [(8, .int 0), (0, .ref (X.2.2 147)), (1, .ref (X.2.2 148)), (2, .ref (X.2.2 144)), (3, .ref (X.2.2 145)), (4, .ref (X.2.2 152)), (5, .int x5_5), (6, .int x6_6), (7, .int x7_17)]) hx hb dL_age_130 hl (by decide) rfl (fun ls hl => ?_)
              refine jn_e hf (fun kk => ∀ (M_20 : Mem) (H : Heap) (locs : List Loc) (ls : Array Slot), HW (LW ex) X M_20 s H locs → lv_has ls 9 [(0, .ref (X.2.2 147)), (1, .ref (X.2.2 148)), (2, .ref (X.2.2 144)), (3, .ref (X.2.2 145)), (4, .ref (X.2.2 152)), (5, .int x5_5), (6, .int x6_6)] → kk M_20 = some rs → W p l e rm_L_age s m args below meth c H locs 0 0 Q (F0 m 165 ls [])) ?_ (fun k165_19 J165_19 hf => ?_)
              · intro M_20 H locs ls hw hl hf
                refine lv_iconst (v := 0) hx hb dL_age_165 (by decide) ?_
                refine lv_istore (lv' := [(8, .int 0), (0, .ref (X.2.2 147)), (1, .ref (X.2.2 148)), (2, .ref (X.2.2 144)), (3, .ref (X.2.2 145)), (4, .ref (X.2.2 152)), (5, .int x5_5), (6, .int x6_6)]) hx hb dL_age_166 hl (by decide) rfl (fun ls hl => ?_)
                refine jn_e hf (fun kk => ∀ (M_22 : Mem) (H : Heap) (locs : List Loc) (ls : Array Slot), HW (LW ex) X M_22 s H locs → lv_has ls 9 [(0, .ref (X.2.2 147)), (1, .ref (X.2.2 148)), (2, .ref (X.2.2 144)), (3, .ref (X.2.2 145)), (4, .ref (X.2.2 152)), (5, .int x5_5), (6, .int x6_6)] → kk M_22 = some rs → W p l e rm_L_age s m args below meth c H locs 0 0 Q (F0 m 201 ls [])) ?_ (fun k201_21 J201_21 hf => ?_)
                · intro M_22 H locs ls hw hl hf
                  refine r_iinc (v := (x5_5 + 1)) hx hb dL_age_201 hl (k := 5) rfl rfl (by decide) hf (fun x5_23 ls hl hf => ?_)
                  have hl : lv_has ls 9 [(5, .int x5_23), (0, .ref (X.2.2 147)), (1, .ref (X.2.2 148)), (2, .ref (X.2.2 144)), (3, .ref (X.2.2 145)), (4, .ref (X.2.2 152)), (6, .int x6_6)] := hl
                  refine r_iinc (v := (x6_6 + 1)) hx hb dL_age_204 hl (k := 6) rfl rfl (by decide) hf (fun x6_24 ls hl hf => ?_)
                  have hl : lv_has ls 9 [(6, .int x6_24), (5, .int x5_23), (0, .ref (X.2.2 147)), (1, .ref (X.2.2 148)), (2, .ref (X.2.2 144)), (3, .ref (X.2.2 145)), (4, .ref (X.2.2 152))] := hl
                  refine lv_goto (tgt := 6) hx hb dL_age_207 (by decide) ?_
                  exact ih_6 x5_23 x6_24 M_22 _ _ _ hw (lv_sub hl [2, 3, 4, 5, 6, 1, 0] rfl) hf
                have hL_168 : ∀ (n_168 : Nat) (x8_25 : Int32) (M_26 : Mem) (H : Heap) (locs : List Loc) (ls : Array Slot), HW (LW ex) X M_26 s H locs → lv_has ls 9 [(0, .ref (X.2.2 147)), (1, .ref (X.2.2 148)), (2, .ref (X.2.2 144)), (3, .ref (X.2.2 145)), (4, .ref (X.2.2 152)), (5, .int x5_5), (6, .int x6_6), (8, .int x8_25)] → f_L_age_L168 fu x5_5 x6_6 k201_21 n_168 x8_25 M_26 = some rs → W p l e rm_L_age s m args below meth c H locs 0 0 Q (F0 m 168 ls []) := by
                  intro n_168
                  induction n_168 with
                  | zero => intro x8_25 M_26 H locs ls hw hl hf; exact no_none hf
                  | succ n_168 ih_168 =>
                    intro x8_25 M_26 H locs ls hw hl hf
                    rw [f_L_age_L168] at hf
                    refine lv_iload hx hb dL_age_168 (lv_at hl 7 rfl) ?_
                    refine lv_bipush (v := 10) hx hb dL_age_170 (by decide) ?_
                    refine lv_icmp_ge (tgt := 201) hx hb dL_age_172 (by decide) (fun c_27 => ?_) (fun c_27 => ?_)
                    · have hf := it_e hf c_27
                      exact J201_21 M_26 _ _ _ hw (lv_sub hl [0, 1, 2, 3, 4, 5, 6] rfl) hf
                    · have hf := ie_e hf c_27
                      refine lv_aload_n hx hb dL_age_175 rfl (lv_at hl 1 rfl) ?_
                      refine lv_bipush (v := 10) hx hb dL_age_176 (by decide) ?_
                      refine lv_iload hx hb dL_age_178 (lv_at hl 5 rfl) ?_
                      refine lv_imul hx hb dL_age_180 ?_
                      refine lv_iload hx hb dL_age_181 (lv_at hl 7 rfl) ?_
                      refine lv_iadd hx hb dL_age_183 ?_
                      refine lv_aload_n hx hb dL_age_184 rfl (lv_at hl 1 rfl) ?_
                      refine lv_bipush (v := 10) hx hb dL_age_185 (by decide) ?_
                      refine lv_iload hx hb dL_age_187 (lv_at hl 6 rfl) ?_
                      refine lv_imul hx hb dL_age_189 ?_
                      refine lv_iload hx hb dL_age_190 (lv_at hl 7 rfl) ?_
                      refine lv_iadd hx hb dL_age_192 ?_
                      obtain ⟨g_28, hf⟩ := grd_e hf
                      refine w_lald B hw (i := 148) (kw148 _) g_28 dL_age_193 ?_
                      obtain ⟨g_29, hf⟩ := grd_e hf
                      refine w_last B hw (i := 148) (kw148 _) g_29 dL_age_194 hf (fun M_30 H locs hw hf => ?_)
                      refine r_iinc (v := (x8_25 + 1)) hx hb dL_age_195 hl (k := 7) rfl rfl (by decide) hf (fun x8_31 ls hl hf => ?_)
                      have hl : lv_has ls 9 [(8, .int x8_31), (0, .ref (X.2.2 147)), (1, .ref (X.2.2 148)), (2, .ref (X.2.2 144)), (3, .ref (X.2.2 145)), (4, .ref (X.2.2 152)), (5, .int x5_5), (6, .int x6_6)] := hl
                      refine lv_goto (tgt := 168) hx hb dL_age_198 (by decide) ?_
                      exact ih_168 x8_31 M_30 _ _ _ hw (lv_sub hl [1, 2, 3, 4, 5, 6, 7, 0] rfl) hf
                exact hL_168 fu 0 M_20 _ _ _ hw (lv_sub hl [1, 2, 3, 4, 5, 6, 7, 0] rfl) hf
              have hL_132 : ∀ (n_132 : Nat) (x8_32 : Int32) (M_33 : Mem) (H : Heap) (locs : List Loc) (ls : Array Slot), HW (LW ex) X M_33 s H locs → lv_has ls 9 [(0, .ref (X.2.2 147)), (1, .ref (X.2.2 148)), (2, .ref (X.2.2 144)), (3, .ref (X.2.2 145)), (4, .ref (X.2.2 152)), (5, .int x5_5), (6, .int x6_6), (8, .int x8_32)] → f_L_age_L132 fu x5_5 x6_6 k165_19 n_132 x8_32 M_33 = some rs → W p l e rm_L_age s m args below meth c H locs 0 0 Q (F0 m 132 ls []) := by
                intro n_132
                induction n_132 with
                | zero => intro x8_32 M_33 H locs ls hw hl hf; exact no_none hf
                | succ n_132 ih_132 =>
                  intro x8_32 M_33 H locs ls hw hl hf
                  rw [f_L_age_L132] at hf
                  refine lv_iload hx hb dL_age_132 (lv_at hl 7 rfl) ?_
                  refine lv_bipush (v := 8) hx hb dL_age_134 (by decide) ?_
                  refine lv_icmp_ge (tgt := 165) hx hb dL_age_136 (by decide) (fun c_34 => ?_) (fun c_34 => ?_)
                  · have hf := it_e hf c_34
                    exact J165_19 M_33 _ _ _ hw (lv_sub hl [0, 1, 2, 3, 4, 5, 6] rfl) hf
                  · have hf := ie_e hf c_34
                    refine lv_aload_n hx hb dL_age_139 rfl (lv_at hl 0 rfl) ?_
                    refine lv_bipush (v := 8) hx hb dL_age_140 (by decide) ?_
                    refine lv_iload hx hb dL_age_142 (lv_at hl 5 rfl) ?_
                    refine lv_imul hx hb dL_age_144 ?_
                    refine lv_iload hx hb dL_age_145 (lv_at hl 7 rfl) ?_
                    refine lv_iadd hx hb dL_age_147 ?_
                    refine lv_aload_n hx hb dL_age_148 rfl (lv_at hl 0 rfl) ?_
                    refine lv_bipush (v := 8) hx hb dL_age_149 (by decide) ?_
                    refine lv_iload hx hb dL_age_151 (lv_at hl 6 rfl) ?_
                    refine lv_imul hx hb dL_age_153 ?_
                    refine lv_iload hx hb dL_age_154 (lv_at hl 7 rfl) ?_
                    refine lv_iadd hx hb dL_age_156 ?_
                    obtain ⟨g_35, hf⟩ := grd_e hf
                    refine w_iald B hw (i := 147) (kw147 _) g_35 dL_age_157 ?_
                    obtain ⟨g_36, hf⟩ := grd_e hf
                    refine w_iast B hw (i := 147) (kw147 _) g_36 dL_age_158 hf (fun M_37 H locs hw hf => ?_)
                    refine r_iinc (v := (x8_32 + 1)) hx hb dL_age_159 hl (k := 7) rfl rfl (by decide) hf (fun x8_38 ls hl hf => ?_)
                    have hl : lv_has ls 9 [(8, .int x8_38), (0, .ref (X.2.2 147)), (1, .ref (X.2.2 148)), (2, .ref (X.2.2 144)), (3, .ref (X.2.2 145)), (4, .ref (X.2.2 152)), (5, .int x5_5), (6, .int x6_6)] := hl
                    refine lv_goto (tgt := 132) hx hb dL_age_162 (by decide) ?_
                    exact ih_132 x8_38 M_37 _ _ _ hw (lv_sub hl [1, 2, 3, 4, 5, 6, 7, 0] rfl) hf
              exact hL_132 fu 0 M_7 _ _ _ hw (lv_sub hl [1, 2, 3, 4, 5, 6, 7, 0] rfl) hf
            · have hf := ie_e hf c_18
              refine lv_goto (tgt := 204) hx hb dL_age_126 (by decide) ?_
              refine r_iinc (v := (x6_6 + 1)) hx hb dL_age_204 hl (k := 6) rfl rfl (by decide) hf (fun x6_39 ls hl hf => ?_)
              have hl : lv_has ls 9 [(6, .int x6_39), (0, .ref (X.2.2 147)), (1, .ref (X.2.2 148)), (2, .ref (X.2.2 144)), (3, .ref (X.2.2 145)), (4, .ref (X.2.2 152)), (5, .int x5_5), (7, .int x7_17)] := hl
              refine lv_goto (tgt := 6) hx hb dL_age_207 (by decide) ?_
              exact ih_6 x5_5 x6_39 M_7 _ _ _ hw (lv_sub hl [1, 2, 3, 4, 5, 6, 0] rfl) hf
          have hL_66 : ∀ (n_66 : Nat) (x7_40 : Int32) (x8_41 : Int32) (H : Heap) (locs : List Loc) (ls : Array Slot), HW (LW ex) X M_7 s H locs → lv_has ls 9 [(0, .ref (X.2.2 147)), (1, .ref (X.2.2 148)), (2, .ref (X.2.2 144)), (3, .ref (X.2.2 145)), (4, .ref (X.2.2 152)), (5, .int x5_5), (6, .int x6_6), (7, .int x7_40), (8, .int x8_41)] → f_L_age_L66 fu x6_6 M_7 k121_16 n_66 x7_40 x8_41 = some rs → W p l e rm_L_age s m args below meth c H locs 0 0 Q (F0 m 66 ls []) := by
            intro n_66
            induction n_66 with
            | zero => intro x7_40 x8_41 H locs ls hw hl hf; exact no_none hf
            | succ n_66 ih_66 =>
              intro x7_40 x8_41 H locs ls hw hl hf
              rw [f_L_age_L66] at hf
              refine lv_iload hx hb dL_age_66 (lv_at hl 8 rfl) ?_
              refine lv_aload hx hb dL_age_68 (lv_at hl 4 rfl) ?_
              refine lv_iconst (v := 0) hx hb dL_age_70 (by decide) ?_
              refine w_iald B hw (i := 152) (kw152 _) (by decide) dL_age_71 ?_
              refine lv_icmp_gt (tgt := 121) hx hb dL_age_72 (by decide) (fun c_42 => ?_) (fun c_42 => ?_)
              · have hf := it_e hf c_42
                exact J121_16 x7_40 _ _ _ hw (lv_sub hl [0, 1, 2, 3, 4, 5, 6, 7] rfl) hf
              · have hf := ie_e hf c_42
                refine lv_iload hx hb dL_age_75 (lv_at hl 7 rfl) ?_
                refine lv_aload_n hx hb dL_age_77 rfl (lv_at hl 2 rfl) ?_
                refine lv_iload hx hb dL_age_78 (lv_at hl 8 rfl) ?_
                obtain ⟨g_43, hf⟩ := grd_e hf
                refine w_iald B hw (i := 144) (kw144 _) g_43 dL_age_80 ?_
                refine lv_bipush (v := 7) hx hb dL_age_81 (by decide) ?_
                refine lv_iand hx hb dL_age_83 ?_
                refine lv_aload_n hx hb dL_age_84 rfl (lv_at hl 0 rfl) ?_
                refine lv_bipush (v := 8) hx hb dL_age_85 (by decide) ?_
                refine lv_iload hx hb dL_age_87 (lv_at hl 6 rfl) ?_
                refine lv_imul hx hb dL_age_89 ?_
                obtain ⟨g_44, hf⟩ := grd_e hf
                refine w_iald B hw (i := 147) (kw147 _) g_44 dL_age_90 ?_
                refine nmv_e hf (fun kk => ∀ (H : Heap) (locs : List Loc), HW (LW ex) X M_7 s H locs → W p l e rm_L_age s m args below meth c H locs 0 0 Q (F0 m 112 ls [.int kk, .int x7_40])) (fun J => ?_) (fun v_47 hf H locs hw => ?_)
                · refine lv_icmp_ne (tgt := 111) hx hb dL_age_91 (by decide) (fun c_45 => ?_) (fun c_45 => ?_)
                  · rw [if_neg (show ¬ (((M_7 144 x8_41.toNatClampNeg) &&& 7) = (M_7 147 (8 * x6_6).toNatClampNeg)) from c_45)] at J
                    refine lv_iconst (v := 0) hx hb dL_age_111 (by decide) ?_
                    exact J _ _ hw
                  · rw [if_pos (show ((M_7 144 x8_41.toNatClampNeg) &&& 7) = (M_7 147 (8 * x6_6).toNatClampNeg) from c_45)] at J
                    refine lv_aload_n hx hb dL_age_94 rfl (lv_at hl 2 rfl) ?_
                    refine lv_iload hx hb dL_age_95 (lv_at hl 8 rfl) ?_
                    refine w_iald B hw (i := 144) (kw144 _) g_43 dL_age_97 ?_
                    refine lv_iconst (v := 3) hx hb dL_age_98 (by decide) ?_
                    refine lv_ishr hx hb dL_age_99 ?_
                    refine lv_aload hx hb dL_age_100 (lv_at hl 4 rfl) ?_
                    refine lv_iconst (v := 1) hx hb dL_age_102 (by decide) ?_
                    refine w_iald B hw (i := 152) (kw152 _) (by decide) dL_age_103 ?_
                    refine lv_icmp_gt (tgt := 111) hx hb dL_age_104 (by decide) (fun c_46 => ?_) (fun c_46 => ?_)
                    · rw [if_pos (show (M_7 152 1) < ((M_7 144 x8_41.toNatClampNeg) >>> (3 &&& 31)) from c_46)] at J
                      refine lv_iconst (v := 0) hx hb dL_age_111 (by decide) ?_
                      exact J _ _ hw
                    · rw [if_neg (show ¬ ((M_7 152 1) < ((M_7 144 x8_41.toNatClampNeg) >>> (3 &&& 31))) from c_46)] at J
                      refine lv_iconst (v := 1) hx hb dL_age_107 (by decide) ?_
                      refine lv_goto (tgt := 112) hx hb dL_age_108 (by decide) ?_
                      exact J _ _ hw
                · refine lv_ior hx hb dL_age_112 ?_
                  refine r_topn hf (fun x7_48 hf => ?_)
                  refine lv_istore (lv' := [(7, .int x7_48), (0, .ref (X.2.2 147)), (1, .ref (X.2.2 148)), (2, .ref (X.2.2 144)), (3, .ref (X.2.2 145)), (4, .ref (X.2.2 152)), (5, .int x5_5), (6, .int x6_6), (8, .int x8_41)]) hx hb dL_age_113 hl (by decide) rfl (fun ls hl => ?_)
                  refine r_iinc (v := (x8_41 + 1)) hx hb dL_age_115 hl (k := 8) rfl rfl (by decide) hf (fun x8_49 ls hl hf => ?_)
                  have hl : lv_has ls 9 [(8, .int x8_49), (7, .int x7_48), (0, .ref (X.2.2 147)), (1, .ref (X.2.2 148)), (2, .ref (X.2.2 144)), (3, .ref (X.2.2 145)), (4, .ref (X.2.2 152)), (5, .int x5_5), (6, .int x6_6)] := hl
                  refine lv_goto (tgt := 66) hx hb dL_age_118 (by decide) ?_
                  exact ih_66 x7_48 x8_49 _ _ _ hw (lv_sub hl [2, 3, 4, 5, 6, 7, 8, 1, 0] rfl) hf
          exact hL_66 fu v_13 x8_15 _ _ _ hw (lv_sub hl [2, 3, 4, 5, 6, 7, 8, 1, 0] rfl) hf
  exact hL_6 fu 0 0 M _ _ _ hw (lv_sub hl [2, 3, 4, 5, 6, 1, 0] rfl) hf
abbrev rm_L_written : Room := { frames := 1, cells := 0, slots := 0, locals := 28 }
set_option maxRecDepth 100000 in
set_option maxHeartbeats 8000000 in
theorem c_L_written (l : Launch) (ex : List (Nat × Nat)) (X : XT) (fu : Nat) (p5 : Int32) (M : Mem)  (rs : Mem) (hf : f_L_written fu p5 M = some rs) (sz : Nat) : Met l yL_written (wbig yL_written cL_written 6 none) rm_L_written (va_Pc [.ref (X.2.2 147), .ref (X.2.2 148), .ref (X.2.2 144), .ref (X.2.2 145), .ref (X.2.2 152), .int p5] (PW (LW ex) X M sz)) (QV (LW ex) X rs sz) 0 0 (AX (LW ex) X sz) := by
  refine met_go (L := (LW ex)) (M := M) (by decide +kernel) (Nat.le_of_ble_eq_true rfl) ?_
  intro p e s m args below meth c hsz B hr hlk hw ls hl
  subst hsz
  have hx := B.hx
  have hb := B.hb
  have hl : lv_has ls 6 [(0, .ref (X.2.2 147)), (1, .ref (X.2.2 148)), (2, .ref (X.2.2 144)), (3, .ref (X.2.2 145)), (4, .ref (X.2.2 152)), (5, .int p5)] := hl
  generalize hQ : MQ below _ args s 0 0 (AX (LW ex) X s.heap.size) = Q
  unfold f_L_written at hf
  refine lv_aload hx hb dL_written_0 (lv_at hl 4 rfl) ?_
  refine lv_iconst (v := 0) hx hb dL_written_2 (by decide) ?_
  refine lv_dup2_11 hx hb dL_written_3 rfl rfl ?_
  refine w_iald B hw (i := 152) (kw152 _) (by decide) dL_written_4 ?_
  refine lv_iconst (v := 1) hx hb dL_written_5 (by decide) ?_
  refine lv_iadd hx hb dL_written_6 ?_
  refine w_iast B hw (i := 152) (kw152 _) (by decide) dL_written_7 hf (fun M_1 H locs hw hf => ?_)
  refine lv_aload_n hx hb dL_written_8 rfl (lv_at hl 2 rfl) ?_
  refine lv_aload hx hb dL_written_9 (lv_at hl 4 rfl) ?_
  refine lv_iconst (v := 0) hx hb dL_written_11 (by decide) ?_
  refine w_iald B hw (i := 152) (kw152 _) (by decide) dL_written_12 ?_
  refine lv_iload hx hb dL_written_13 (lv_at hl 5 rfl) ?_
  refine lv_aload hx hb dL_written_15 (lv_at hl 4 rfl) ?_
  refine lv_iconst (v := 1) hx hb dL_written_17 (by decide) ?_
  refine w_iald B hw (i := 152) (kw152 _) (by decide) dL_written_18 ?_
  refine lv_aload_n hx hb dL_written_19 rfl (lv_at hl 3 rfl) ?_
  refine lv_iconst (v := 3) hx hb dL_written_20 (by decide) ?_
  refine lv_iload hx hb dL_written_21 (lv_at hl 5 rfl) ?_
  refine lv_iconst (v := 2) hx hb dL_written_23 (by decide) ?_
  refine lv_idiv hx hb dL_written_24 (by decide) ?_
  refine lv_iadd hx hb dL_written_25 ?_
  obtain ⟨g_2, hf⟩ := grd_e hf
  refine w_iald B hw (i := 145) (kw145 _) g_2 dL_written_26 ?_
  refine lv_iadd hx hb dL_written_27 ?_
  refine lv_iconst (v := 3) hx hb dL_written_28 (by decide) ?_
  refine lv_ishl hx hb dL_written_29 ?_
  refine lv_iadd hx hb dL_written_30 ?_
  obtain ⟨g_3, hf⟩ := grd_e hf
  refine w_iast B hw (i := 144) (kw144 _) g_3 dL_written_31 hf (fun M_4 H locs hw hf => ?_)
  refine lv_aload_n hx hb dL_written_32 rfl (lv_at hl 0 rfl) ?_
  refine lv_aload_n hx hb dL_written_33 rfl (lv_at hl 1 rfl) ?_
  refine lv_aload_n hx hb dL_written_34 rfl (lv_at hl 2 rfl) ?_
  refine lv_aload_n hx hb dL_written_35 rfl (lv_at hl 3 rfl) ?_
  refine lv_aload hx hb dL_written_36 (lv_at hl 4 rfl) ?_
  obtain ⟨M_6, h_5, hf⟩ := bd_e hf
  refine q_callSv (M' := M_6) (As := [.ref (X.2.2 147), .ref (X.2.2 148), .ref (X.2.2 144), .ref (X.2.2 145), .ref (X.2.2 152)]) (rest := []) B hw (c_L_age l _ X fu M_4 M_6 h_5 _) cs_L_113 rfl hl.1 rfl rfl ⟨(Nat.le_of_ble_eq_true rfl), (Nat.le_of_ble_eq_true rfl)⟩ (Nat.le_of_ble_eq_true rfl) ⟨(Nat.le_of_ble_eq_true rfl), (Nat.le_of_ble_eq_true rfl)⟩ dL_written_38 rfl (fun H locs hw => ?_)
  cases hf
  subst hQ
  exact q_vret B hr hlk hw rfl dL_written_41
abbrev rm_L_lay : Room := { frames := 1, cells := 0, slots := 0, locals := 21 }
set_option maxRecDepth 100000 in
set_option maxHeartbeats 8000000 in
theorem c_L_lay (l : Launch) (ex : List (Nat × Nat)) (X : XT) (fu : Nat) (a0 : Nat) (l0 : Nat) (a1 : Nat) (l1 : Nat) (p2 : Int32) (p3 : Int64) (M : Mem) (ha0 : kW ex a0 = (24, l0)) (ha1 : kW ex a1 = (20, l1)) (rs : Mem) (hf : f_L_lay fu a0 l0 a1 l1 p2 p3 M = some rs) (sz : Nat) : Met l yL_lay (wbig yL_lay cL_lay 6 none) rm_L_lay (va_Pc [.ref (X.2.2 a0), .ref (X.2.2 a1), .int p2, .long p3] (PW (LW ex) X M sz)) (QV (LW ex) X rs sz) 0 0 (AX (LW ex) X sz) := by
  refine met_go (L := (LW ex)) (M := M) (by decide +kernel) (Nat.le_of_ble_eq_true rfl) ?_
  intro p e s m args below meth c hsz B hr hlk hw ls hl
  subst hsz
  have hx := B.hx
  have hb := B.hb
  have hl : lv_has ls 6 [(0, .ref (X.2.2 a0)), (1, .ref (X.2.2 a1)), (2, .int p2), (3, .long p3)] := hl
  generalize hQ : MQ below _ args s 0 0 (AX (LW ex) X s.heap.size) = Q
  unfold f_L_lay at hf
  refine lv_aload_n hx hb dL_lay_0 rfl (lv_at hl 1 rfl) ?_
  refine lv_iload_n hx hb dL_lay_1 rfl (lv_at hl 2 rfl) ?_
  obtain ⟨g_1, hf⟩ := grd_e hf
  refine w_iald B hw (i := a1) ha1 g_1 dL_lay_2 ?_
  refine r_topn hf (fun x5_2 hf => ?_)
  refine lv_istore (lv' := [(5, .int x5_2), (0, .ref (X.2.2 a0)), (1, .ref (X.2.2 a1)), (2, .int p2), (3, .long p3)]) hx hb dL_lay_3 hl (by decide) rfl (fun ls hl => ?_)
  refine jn_e hf (fun kk => ∀ (x5_4 : Int32) (M_5 : Mem) (H : Heap) (locs : List Loc) (ls : Array Slot), HW (LW ex) X M_5 s H locs → lv_has ls 6 [(0, .ref (X.2.2 a0)), (1, .ref (X.2.2 a1)), (2, .int p2), (3, .long p3), (5, .int x5_4)] → kk x5_4 M_5 = some rs → W p l e rm_L_lay s m args below meth c H locs 0 0 Q (F0 m 57 ls [])) ?_ (fun k57_3 J57_3 hf => ?_)
  · intro x5_4 M_5 H locs ls hw hl hf
    refine lv_aload_n hx hb dL_lay_57 rfl (lv_at hl 0 rfl) ?_
    refine lv_bipush (v := 10) hx hb dL_lay_58 (by decide) ?_
    refine lv_iload_n hx hb dL_lay_60 rfl (lv_at hl 2 rfl) ?_
    refine lv_imul hx hb dL_lay_61 ?_
    refine lv_iload hx hb dL_lay_62 (lv_at hl 4 rfl) ?_
    refine lv_iadd hx hb dL_lay_64 ?_
    refine lv_lload_n hx hb dL_lay_65 rfl (lv_at hl 3 rfl) ?_
    obtain ⟨g_6, hf⟩ := grd_e hf
    refine w_last B hw (i := a0) ha0 g_6 dL_lay_66 hf (fun M_7 H locs hw hf => ?_)
    refine lv_aload_n hx hb dL_lay_67 rfl (lv_at hl 1 rfl) ?_
    refine lv_iload_n hx hb dL_lay_68 rfl (lv_at hl 2 rfl) ?_
    refine lv_dup2_11 hx hb dL_lay_69 rfl rfl ?_
    refine w_iald B hw (i := a1) ha1 g_1 dL_lay_70 ?_
    refine lv_iconst (v := 1) hx hb dL_lay_71 (by decide) ?_
    refine lv_iadd hx hb dL_lay_72 ?_
    refine w_iast B hw (i := a1) ha1 g_1 dL_lay_73 hf (fun M_8 H locs hw hf => ?_)
    cases hf
    subst hQ
    exact q_vret B hr hlk hw rfl dL_lay_74
  have hL_5 : ∀ (n_5 : Nat) (x5_9 : Int32) (M_10 : Mem) (H : Heap) (locs : List Loc) (ls : Array Slot), HW (LW ex) X M_10 s H locs → lv_has ls 6 [(0, .ref (X.2.2 a0)), (1, .ref (X.2.2 a1)), (2, .int p2), (3, .long p3), (5, .int x5_9)] → f_L_lay_L5 fu a0 l0 p2 p3 k57_3 n_5 x5_9 M_10 = some rs → W p l e rm_L_lay s m args below meth c H locs 0 0 Q (F0 m 5 ls []) := by
    intro n_5
    induction n_5 with
    | zero => intro x5_9 M_10 H locs ls hw hl hf; exact no_none hf
    | succ n_5 ih_5 =>
      intro x5_9 M_10 H locs ls hw hl hf
      rw [f_L_lay_L5] at hf
      refine lv_iload hx hb dL_lay_5 (lv_at hl 4 rfl) ?_
      refine lv_if_le (tgt := 57) hx hb dL_lay_7 (by decide) (fun c_11 => ?_) (fun c_11 => ?_)
      · have hf := it_e hf c_11
        exact J57_3 x5_9 M_10 _ _ _ hw (lv_sub hl [0, 1, 2, 3, 4] rfl) hf
      · have hf := ie_e hf c_11
        refine lv_aload_n hx hb dL_lay_10 rfl (lv_at hl 0 rfl) ?_
        refine lv_bipush (v := 10) hx hb dL_lay_11 (by decide) ?_
        refine lv_iload_n hx hb dL_lay_13 rfl (lv_at hl 2 rfl) ?_
        refine lv_imul hx hb dL_lay_14 ?_
        refine lv_iload hx hb dL_lay_15 (lv_at hl 4 rfl) ?_
        refine lv_iadd hx hb dL_lay_17 ?_
        refine lv_iconst (v := 1) hx hb dL_lay_18 (by decide) ?_
        refine lv_isub hx hb dL_lay_19 ?_
        obtain ⟨g_12, hf⟩ := grd_e hf
        refine w_lald B hw (i := a0) ha0 g_12 dL_lay_20 ?_
        refine q_callSi (M' := M_10) (As := [.long (lg (M_10 a0) (((10 * p2) + x5_9) - 1).toNatClampNeg)]) (rest := []) B hw (c_L_markOf l _ X (lg (M_10 a0) (((10 * p2) + x5_9) - 1).toNatClampNeg) _ rfl M_10 _) cs_L_105 rfl hl.1 rfl rfl ⟨(Nat.le_of_ble_eq_true rfl), (Nat.le_of_ble_eq_true rfl)⟩ (Nat.le_of_ble_eq_true rfl) ⟨(Nat.le_of_ble_eq_true rfl), (Nat.le_of_ble_eq_true rfl)⟩ dL_lay_21 rfl (fun H locs hw => ?_)
        refine lv_lload_n hx hb dL_lay_24 rfl (lv_at hl 3 rfl) ?_
        refine q_callSi (M' := M_10) (As := [.long p3]) (rest := [.int (f_L_markOf (lg (M_10 a0) (((10 * p2) + x5_9) - 1).toNatClampNeg))]) B hw (c_L_markOf l _ X p3 _ rfl M_10 _) cs_L_105 rfl hl.1 rfl rfl ⟨(Nat.le_of_ble_eq_true rfl), (Nat.le_of_ble_eq_true rfl)⟩ (Nat.le_of_ble_eq_true rfl) ⟨(Nat.le_of_ble_eq_true rfl), (Nat.le_of_ble_eq_true rfl)⟩ dL_lay_25 rfl (fun H locs hw => ?_)
        refine lv_icmp_le (tgt := 57) hx hb dL_lay_28 (by decide) (fun c_15 => ?_) (fun c_15 => ?_)
        · have hf := it_e hf c_15
          exact J57_3 x5_9 M_10 _ _ _ hw (lv_sub hl [0, 1, 2, 3, 4] rfl) hf
        · have hf := ie_e hf c_15
          refine lv_aload_n hx hb dL_lay_31 rfl (lv_at hl 0 rfl) ?_
          refine lv_bipush (v := 10) hx hb dL_lay_32 (by decide) ?_
          refine lv_iload_n hx hb dL_lay_34 rfl (lv_at hl 2 rfl) ?_
          refine lv_imul hx hb dL_lay_35 ?_
          refine lv_iload hx hb dL_lay_36 (lv_at hl 4 rfl) ?_
          refine lv_iadd hx hb dL_lay_38 ?_
          refine lv_aload_n hx hb dL_lay_39 rfl (lv_at hl 0 rfl) ?_
          refine lv_bipush (v := 10) hx hb dL_lay_40 (by decide) ?_
          refine lv_iload_n hx hb dL_lay_42 rfl (lv_at hl 2 rfl) ?_
          refine lv_imul hx hb dL_lay_43 ?_
          refine lv_iload hx hb dL_lay_44 (lv_at hl 4 rfl) ?_
          refine lv_iadd hx hb dL_lay_46 ?_
          refine lv_iconst (v := 1) hx hb dL_lay_47 (by decide) ?_
          refine lv_isub hx hb dL_lay_48 ?_
          refine w_lald B hw (i := a0) ha0 g_12 dL_lay_49 ?_
          obtain ⟨g_16, hf⟩ := grd_e hf
          refine w_last B hw (i := a0) ha0 g_16 dL_lay_50 hf (fun M_17 H locs hw hf => ?_)
          refine r_iinc (v := (x5_9 + (-1))) hx hb dL_lay_51 hl (k := 4) rfl rfl (by decide) hf (fun x5_18 ls hl hf => ?_)
          have hl : lv_has ls 6 [(5, .int x5_18), (0, .ref (X.2.2 a0)), (1, .ref (X.2.2 a1)), (2, .int p2), (3, .long p3)] := hl
          refine lv_goto (tgt := 5) hx hb dL_lay_54 (by decide) ?_
          exact ih_5 x5_18 M_17 _ _ _ hw (lv_sub hl [1, 2, 3, 4, 0] rfl) hf
  exact hL_5 fu x5_2 M _ _ _ hw (lv_sub hl [1, 2, 3, 4, 0] rfl) hf
abbrev rm_L_lift : Room := { frames := 0, cells := 0, slots := 0, locals := 0 }
set_option maxRecDepth 100000 in
set_option maxHeartbeats 8000000 in
theorem c_L_lift (l : Launch) (ex : List (Nat × Nat)) (X : XT) (fu : Nat) (p2 : Int32) (p3 : Int32) (M : Mem)  (rs : Mem) (hf : f_L_lift fu p2 p3 M = some rs) (sz : Nat) : Met l yL_lift (wbig yL_lift cL_lift 5 none) rm_L_lift (va_Pc [.ref (X.2.2 142), .ref (X.2.2 143), .int p2, .int p3] (PW (LW ex) X M sz)) (QV (LW ex) X rs sz) 0 0 (AX (LW ex) X sz) := by
  refine met_go (L := (LW ex)) (M := M) (by decide +kernel) (Nat.le_of_ble_eq_true rfl) ?_
  intro p e s m args below meth c hsz B hr hlk hw ls hl
  subst hsz
  have hx := B.hx
  have hb := B.hb
  have hl : lv_has ls 5 [(0, .ref (X.2.2 142)), (1, .ref (X.2.2 143)), (2, .int p2), (3, .int p3)] := hl
  generalize hQ : MQ below _ args s 0 0 (AX (LW ex) X s.heap.size) = Q
  unfold f_L_lift at hf
  refine lv_aload_n hx hb dL_lift_0 rfl (lv_at hl 1 rfl) ?_
  refine lv_iload_n hx hb dL_lift_1 rfl (lv_at hl 2 rfl) ?_
  refine lv_dup2_11 hx hb dL_lift_2 rfl rfl ?_
  obtain ⟨g_1, hf⟩ := grd_e hf
  refine w_iald B hw (i := 143) (kw143 _) g_1 dL_lift_3 ?_
  refine lv_iconst (v := 1) hx hb dL_lift_4 (by decide) ?_
  refine lv_isub hx hb dL_lift_5 ?_
  refine w_iast B hw (i := 143) (kw143 _) g_1 dL_lift_6 hf (fun M_2 H locs hw hf => ?_)
  refine lv_iload_n hx hb dL_lift_7 rfl (lv_at hl 3 rfl) ?_
  refine lv_istore (lv' := [(4, .int p3), (0, .ref (X.2.2 142)), (1, .ref (X.2.2 143)), (2, .int p2), (3, .int p3)]) hx hb dL_lift_8 hl (by decide) rfl (fun ls hl => ?_)
  have hL_10 : ∀ (n_10 : Nat) (x4_3 : Int32) (M_4 : Mem) (H : Heap) (locs : List Loc) (ls : Array Slot), HW (LW ex) X M_4 s H locs → lv_has ls 5 [(0, .ref (X.2.2 142)), (1, .ref (X.2.2 143)), (2, .int p2), (4, .int x4_3)] → f_L_lift_L10 fu p2 n_10 x4_3 M_4 = some rs → W p l e rm_L_lift s m args below meth c H locs 0 0 Q (F0 m 10 ls []) := by
    intro n_10
    induction n_10 with
    | zero => intro x4_3 M_4 H locs ls hw hl hf; exact no_none hf
    | succ n_10 ih_10 =>
      intro x4_3 M_4 H locs ls hw hl hf
      rw [f_L_lift_L10] at hf
      refine lv_iload hx hb dL_lift_10 (lv_at hl 3 rfl) ?_
      refine lv_aload_n hx hb dL_lift_12 rfl (lv_at hl 1 rfl) ?_
      refine lv_iload_n hx hb dL_lift_13 rfl (lv_at hl 2 rfl) ?_
      obtain ⟨g_5, hf⟩ := grd_e hf
      refine w_iald B hw (i := 143) (kw143 _) g_5 dL_lift_14 ?_
      refine lv_icmp_ge (tgt := 44) hx hb dL_lift_15 (by decide) (fun c_6 => ?_) (fun c_6 => ?_)
      · have hf := it_e hf c_6
        cases hf
        subst hQ
        exact q_vret B hr hlk hw rfl dL_lift_44
      · have hf := ie_e hf c_6
        refine lv_aload_n hx hb dL_lift_18 rfl (lv_at hl 0 rfl) ?_
        refine lv_bipush (v := 10) hx hb dL_lift_19 (by decide) ?_
        refine lv_iload_n hx hb dL_lift_21 rfl (lv_at hl 2 rfl) ?_
        refine lv_imul hx hb dL_lift_22 ?_
        refine lv_iload hx hb dL_lift_23 (lv_at hl 3 rfl) ?_
        refine lv_iadd hx hb dL_lift_25 ?_
        refine lv_aload_n hx hb dL_lift_26 rfl (lv_at hl 0 rfl) ?_
        refine lv_bipush (v := 10) hx hb dL_lift_27 (by decide) ?_
        refine lv_iload_n hx hb dL_lift_29 rfl (lv_at hl 2 rfl) ?_
        refine lv_imul hx hb dL_lift_30 ?_
        refine lv_iload hx hb dL_lift_31 (lv_at hl 3 rfl) ?_
        refine lv_iadd hx hb dL_lift_33 ?_
        refine lv_iconst (v := 1) hx hb dL_lift_34 (by decide) ?_
        refine lv_iadd hx hb dL_lift_35 ?_
        obtain ⟨g_7, hf⟩ := grd_e hf
        refine w_lald B hw (i := 142) (kw142 _) g_7 dL_lift_36 ?_
        obtain ⟨g_8, hf⟩ := grd_e hf
        refine w_last B hw (i := 142) (kw142 _) g_8 dL_lift_37 hf (fun M_9 H locs hw hf => ?_)
        refine r_iinc (v := (x4_3 + 1)) hx hb dL_lift_38 hl (k := 3) rfl rfl (by decide) hf (fun x4_10 ls hl hf => ?_)
        have hl : lv_has ls 5 [(4, .int x4_10), (0, .ref (X.2.2 142)), (1, .ref (X.2.2 143)), (2, .int p2)] := hl
        refine lv_goto (tgt := 10) hx hb dL_lift_41 (by decide) ?_
        exact ih_10 x4_10 M_9 _ _ _ hw (lv_sub hl [1, 2, 3, 0] rfl) hf
  exact hL_10 fu p3 M_2 _ _ _ hw (lv_sub hl [1, 2, 3, 0] rfl) hf
