abbrev rmi_X9 : Room := { frames := 1, cells := 0, slots := 0, locals := 22 }
set_option maxHeartbeats 4000000 in
set_option maxRecDepth 100000 in
theorem c_X9_init (l : Launch) (X : XT) (h0 : Nat) (sz : Nat) : Met l yX9_init (wbig yX9_init cX9_init 1 none) rmi_X9 (va_Pc [.ref h0] (IP X [(h0, .inr (9, [.int 0, .int 0]))] sz)) (QN X [(h0, .inr (9, [.int 0, .int 0]))] sz (wX9 X h0)) 0 0 (va_A [(h0, .inr (9, [.int 0, .int 0]))] sz) := by
  refine init_go (Bp := wX9 X h0) (by decide +kernel) (Nat.le_of_ble_eq_true rfl) ?_
  intro p e s m args below meth c A hA B hr hlk hin h ls hl
  have hl : lv_has ls 1 [(0, .ref h0)] := hl
  refine lv_aload_n B.hx B.hb dX9_init_0 rfl (lv_at hl 0 rfl) ?_
  refine i_obj B hl.1 (big_at 33 (by decide +kernel) (by decide +kernel)) (Nat.le_of_ble_eq_true rfl) (Nat.le_of_ble_eq_true rfl) dX9_init_1 ?_
  exact i_vret B hr hlk h (fun i => 0) rfl dX9_init_4
abbrev rmi_X6 : Room := { frames := 1, cells := 2, slots := 60, locals := 22 }
set_option maxHeartbeats 4000000 in
set_option maxRecDepth 100000 in
theorem c_X6_init (l : Launch) (X : XT) (h0 : Nat) (sz : Nat) : Met l yX6_init (wbig yX6_init cX6_init 1 none) rmi_X6 (va_Pc [.ref h0] (IP X [(h0, .inr (6, [.null, .null, .int 0]))] sz)) (QN X [(h0, .inr (6, [.null, .null, .int 0]))] sz (wX6 X h0)) 2 60 (va_A [(h0, .inr (6, [.null, .null, .int 0]))] sz) := by
  refine init_go (Bp := wX6 X h0) (by decide +kernel) (Nat.le_of_ble_eq_true rfl) ?_
  intro p e s m args below meth c A hA B hr hlk hin h ls hl
  have hl : lv_has ls 1 [(0, .ref h0)] := hl
  refine lv_aload_n B.hx B.hb dX6_init_0 rfl (lv_at hl 0 rfl) ?_
  refine i_obj B hl.1 (big_at 64 (by decide +kernel) (by decide +kernel)) (Nat.le_of_ble_eq_true rfl) (Nat.le_of_ble_eq_true rfl) dX6_init_1 ?_
  refine lv_aload_n B.hx B.hb dX6_init_4 rfl (lv_at hl 0 rfl) ?_
  refine lv_bipush (v := 12) B.hx B.hb dX6_init_5 (by decide) ?_
  refine i_newi B h hA 12 (by decide +kernel) (by decide +kernel) (Nat.le_of_ble_eq_true rfl) (Nat.le_of_ble_eq_true rfl) (Nat.le_of_ble_eq_true rfl) dX6_init_7 (fun q1 H h => ?_)
  have h : HI X A s ([(h0, .inr (6, [.null, .null, .int 0])), (q1, .inl (X.2.1 0, 12, .inl (fun _ => 0)))]) H [] := h
  refine i_putF (ty := .array (.int)) (k := 0) (T := TX6) (v := .ref q1) B hin h rfl in_X6 tyX6 tyX6_ok nmX6 (by decide) kf_X6_9 rfl rfl (by decide +kernel) rfl rfl (Nat.le_of_ble_eq_true rfl) dX6_init_9 (fun H locs h => ?_)
  have h : HI X A s ([(h0, .inr (6, [.ref q1, .null, .int 0])), (q1, .inl (X.2.1 0, 12, .inl (fun _ => 0)))]) H locs := h
  refine i_pc (pc' := 12) (c' := 1) (s' := 12) rfl rfl rfl ?_
  refine lv_aload_n B.hx B.hb dX6_init_12 rfl (lv_at hl 0 rfl) ?_
  refine lv_bipush (v := 48) B.hx B.hb dX6_init_13 (by decide) ?_
  refine i_newi B h hA 48 (by decide +kernel) (by decide +kernel) (Nat.le_of_ble_eq_true rfl) (Nat.le_of_ble_eq_true rfl) (Nat.le_of_ble_eq_true rfl) dX6_init_15 (fun q2 H h => ?_)
  have h : HI X A s ([(h0, .inr (6, [.ref q1, .null, .int 0])), (q1, .inl (X.2.1 0, 12, .inl (fun _ => 0))), (q2, .inl (X.2.1 0, 48, .inl (fun _ => 0)))]) H locs := h
  refine i_putF (ty := .array (.int)) (k := 1) (T := TX6) (v := .ref q2) B hin h rfl in_X6 tyX6 tyX6_ok nmX6 (by decide) kf_X6_15 rfl rfl (by decide +kernel) rfl rfl (Nat.le_of_ble_eq_true rfl) dX6_init_17 (fun H locs h => ?_)
  have h : HI X A s ([(h0, .inr (6, [.ref q1, .ref q2, .int 0])), (q1, .inl (X.2.1 0, 12, .inl (fun _ => 0))), (q2, .inl (X.2.1 0, 48, .inl (fun _ => 0)))]) H locs := h
  refine i_pc (pc' := 20) (c' := 2) (s' := 60) rfl rfl rfl ?_
  exact i_vret B hr hlk h (fun i => (if i < 2 then q1 else q2)) rfl dX6_init_20
abbrev rmi_X5 : Room := { frames := 2, cells := 6, slots := 75, locals := 42 }
set_option maxHeartbeats 4000000 in
set_option maxRecDepth 100000 in
theorem c_X5_init (l : Launch) (X : XT) (h0 : Nat) (sz : Nat) : Met l yX5_init (wbig yX5_init cX5_init 1 none) rmi_X5 (va_Pc [.ref h0] (IP X [(h0, .inr (5, [.null, .null, .null, .null, .int 0, .int 0, .int 0, .int 0, .int 0, .int 0, .int 0]))] sz)) (QN X [(h0, .inr (5, [.null, .null, .null, .null, .int 0, .int 0, .int 0, .int 0, .int 0, .int 0, .int 0]))] sz (wX5 X h0)) 6 75 (va_A [(h0, .inr (5, [.null, .null, .null, .null, .int 0, .int 0, .int 0, .int 0, .int 0, .int 0, .int 0]))] sz) := by
  refine init_go (Bp := wX5 X h0) (by decide +kernel) (Nat.le_of_ble_eq_true rfl) ?_
  intro p e s m args below meth c A hA B hr hlk hin h ls hl
  have hl : lv_has ls 1 [(0, .ref h0)] := hl
  refine lv_aload_n B.hx B.hb dX5_init_0 rfl (lv_at hl 0 rfl) ?_
  refine i_obj B hl.1 (big_at 58 (by decide +kernel) (by decide +kernel)) (Nat.le_of_ble_eq_true rfl) (Nat.le_of_ble_eq_true rfl) dX5_init_1 ?_
  refine lv_aload_n B.hx B.hb dX5_init_4 rfl (lv_at hl 0 rfl) ?_
  refine i_new (ci := 6) (fs := [.null, .null, .int 0]) B h hA rfl in_X6 tyX6 tyX6_ok (big_at 59 (by decide +kernel) (by decide +kernel)) (big_at 60 (by decide +kernel) (by decide +kernel)) ki_X6 (fun j hj => by rcases (show j = 0 ∨ j = 1 ∨ j = 2 by omega) with rfl | rfl | rfl <;> rfl) (Nat.le_of_ble_eq_true rfl) (Nat.le_of_ble_eq_true rfl) dX5_init_5 (fun q1 H h => ?_)
  refine lv_dup B.hx B.hb dX5_init_8 rfl ?_
  refine i_callN (As := []) (rest := [.ref q1, .ref h0]) (n := 0) (host := "QueryHarbor") B h hA (c_X6_init l X q1  H.size) hl.1 kc_X6_init (List.mem_of_getElem? (i := 2) (by decide +kernel)) ki_X6 kn_X6_init rfl ⟨by decide +kernel, by decide +kernel, by decide +kernel⟩ rfl rfl rfl ⟨(Nat.le_of_ble_eq_true rfl), (Nat.le_of_ble_eq_true rfl)⟩ (Nat.le_of_ble_eq_true rfl) ⟨(Nat.le_of_ble_eq_true rfl), (Nat.le_of_ble_eq_true rfl)⟩ dX5_init_9 rfl (fun u2 H locs h => ?_)
  have h : HI X A s ((h0, .inr (5, [.null, .null, .null, .null, .int 0, .int 0, .int 0, .int 0, .int 0, .int 0, .int 0])) :: (wX6 X q1 u2)) H locs := h
  refine i_pc (pc' := 12) (c' := 3) (s' := 63) rfl rfl rfl ?_
  refine i_putF (ty := .object "QueryHarbor$Rows") (k := 0) (T := TX5) (v := .ref q1) B hin h rfl in_X5 tyX5 tyX5_ok nmX5 (by decide) kf_X5_12 rfl rfl (by decide +kernel) rfl rfl (Nat.le_of_ble_eq_true rfl) dX5_init_12 (fun H locs h => ?_)
  have h : HI X A s ((h0, .inr (5, [.ref q1, .null, .null, .null, .int 0, .int 0, .int 0, .int 0, .int 0, .int 0, .int 0])) :: (wX6 X q1 u2)) H locs := h
  refine i_pc (pc' := 15) (c' := 3) (s' := 63) rfl rfl rfl ?_
  refine lv_aload_n B.hx B.hb dX5_init_15 rfl (lv_at hl 0 rfl) ?_
  refine lv_iconst (v := 4) B.hx B.hb dX5_init_16 (by decide) ?_
  refine i_newi B h hA 4 (by decide +kernel) (by decide +kernel) (Nat.le_of_ble_eq_true rfl) (Nat.le_of_ble_eq_true rfl) (Nat.le_of_ble_eq_true rfl) dX5_init_17 (fun q3 H h => ?_)
  have h : HI X A s ((h0, .inr (5, [.ref q1, .null, .null, .null, .int 0, .int 0, .int 0, .int 0, .int 0, .int 0, .int 0])) :: (wX6 X q1 u2 ++ [(q3, .inl (X.2.1 0, 4, .inl (fun _ => 0)))])) H locs := h
  refine i_putF (ty := .array (.int)) (k := 1) (T := TX5) (v := .ref q3) B hin h rfl in_X5 tyX5 tyX5_ok nmX5 (by decide) kf_X5_18 rfl rfl (by decide +kernel) rfl rfl (Nat.le_of_ble_eq_true rfl) dX5_init_19 (fun H locs h => ?_)
  have h : HI X A s ((h0, .inr (5, [.ref q1, .ref q3, .null, .null, .int 0, .int 0, .int 0, .int 0, .int 0, .int 0, .int 0])) :: (wX6 X q1 u2 ++ [(q3, .inl (X.2.1 0, 4, .inl (fun _ => 0)))])) H locs := h
  refine i_pc (pc' := 22) (c' := 4) (s' := 67) rfl rfl rfl ?_
  refine lv_aload_n B.hx B.hb dX5_init_22 rfl (lv_at hl 0 rfl) ?_
  refine lv_iconst (v := 4) B.hx B.hb dX5_init_23 (by decide) ?_
  refine i_newi B h hA 4 (by decide +kernel) (by decide +kernel) (Nat.le_of_ble_eq_true rfl) (Nat.le_of_ble_eq_true rfl) (Nat.le_of_ble_eq_true rfl) dX5_init_24 (fun q4 H h => ?_)
  have h : HI X A s ((h0, .inr (5, [.ref q1, .ref q3, .null, .null, .int 0, .int 0, .int 0, .int 0, .int 0, .int 0, .int 0])) :: (wX6 X q1 u2 ++ [(q3, .inl (X.2.1 0, 4, .inl (fun _ => 0)))] ++ [(q4, .inl (X.2.1 0, 4, .inl (fun _ => 0)))])) H locs := h
  refine i_putF (ty := .array (.int)) (k := 2) (T := TX5) (v := .ref q4) B hin h rfl in_X5 tyX5 tyX5_ok nmX5 (by decide) kf_X5_22 rfl rfl (by decide +kernel) rfl rfl (Nat.le_of_ble_eq_true rfl) dX5_init_26 (fun H locs h => ?_)
  have h : HI X A s ((h0, .inr (5, [.ref q1, .ref q3, .ref q4, .null, .int 0, .int 0, .int 0, .int 0, .int 0, .int 0, .int 0])) :: (wX6 X q1 u2 ++ [(q3, .inl (X.2.1 0, 4, .inl (fun _ => 0)))] ++ [(q4, .inl (X.2.1 0, 4, .inl (fun _ => 0)))])) H locs := h
  refine i_pc (pc' := 29) (c' := 5) (s' := 71) rfl rfl rfl ?_
  refine lv_aload_n B.hx B.hb dX5_init_29 rfl (lv_at hl 0 rfl) ?_
  refine lv_iconst (v := 4) B.hx B.hb dX5_init_30 (by decide) ?_
  refine i_newi B h hA 4 (by decide +kernel) (by decide +kernel) (Nat.le_of_ble_eq_true rfl) (Nat.le_of_ble_eq_true rfl) (Nat.le_of_ble_eq_true rfl) dX5_init_31 (fun q5 H h => ?_)
  have h : HI X A s ((h0, .inr (5, [.ref q1, .ref q3, .ref q4, .null, .int 0, .int 0, .int 0, .int 0, .int 0, .int 0, .int 0])) :: (wX6 X q1 u2 ++ [(q3, .inl (X.2.1 0, 4, .inl (fun _ => 0)))] ++ [(q4, .inl (X.2.1 0, 4, .inl (fun _ => 0)))] ++ [(q5, .inl (X.2.1 0, 4, .inl (fun _ => 0)))])) H locs := h
  refine i_putF (ty := .array (.int)) (k := 3) (T := TX5) (v := .ref q5) B hin h rfl in_X5 tyX5 tyX5_ok nmX5 (by decide) kf_X5_25 rfl rfl (by decide +kernel) rfl rfl (Nat.le_of_ble_eq_true rfl) dX5_init_33 (fun H locs h => ?_)
  have h : HI X A s ((h0, .inr (5, [.ref q1, .ref q3, .ref q4, .ref q5, .int 0, .int 0, .int 0, .int 0, .int 0, .int 0, .int 0])) :: (wX6 X q1 u2 ++ [(q3, .inl (X.2.1 0, 4, .inl (fun _ => 0)))] ++ [(q4, .inl (X.2.1 0, 4, .inl (fun _ => 0)))] ++ [(q5, .inl (X.2.1 0, 4, .inl (fun _ => 0)))])) H locs := h
  refine i_pc (pc' := 36) (c' := 6) (s' := 75) rfl rfl rfl ?_
  exact i_vret B hr hlk h (fun i => (if i < 5 then (if i < 4 then (if i = 1 then q1 else u2 (i - 1)) else q3) else (if i < 6 then q4 else q5))) rfl dX5_init_36
abbrev rmi_X4 : Room := { frames := 1, cells := 9, slots := 37, locals := 22 }
set_option maxHeartbeats 4000000 in
set_option maxRecDepth 100000 in
theorem c_X4_init (l : Launch) (X : XT) (h0 : Nat) (sz : Nat) : Met l yX4_init (wbig yX4_init cX4_init 1 none) rmi_X4 (va_Pc [.ref h0] (IP X [(h0, .inr (4, [.null, .null, .null, .null, .null, .null, .null, .null, .null, .int 0, .int 0, .int 0, .int 0, .int 0, .int 0]))] sz)) (QN X [(h0, .inr (4, [.null, .null, .null, .null, .null, .null, .null, .null, .null, .int 0, .int 0, .int 0, .int 0, .int 0, .int 0]))] sz (wX4 X h0)) 9 37 (va_A [(h0, .inr (4, [.null, .null, .null, .null, .null, .null, .null, .null, .null, .int 0, .int 0, .int 0, .int 0, .int 0, .int 0]))] sz) := by
  refine init_go (Bp := wX4 X h0) (by decide +kernel) (Nat.le_of_ble_eq_true rfl) ?_
  intro p e s m args below meth c A hA B hr hlk hin h ls hl
  have hl : lv_has ls 1 [(0, .ref h0)] := hl
  refine lv_aload_n B.hx B.hb dX4_init_0 rfl (lv_at hl 0 rfl) ?_
  refine i_obj B hl.1 (big_at 229 (by decide +kernel) (by decide +kernel)) (Nat.le_of_ble_eq_true rfl) (Nat.le_of_ble_eq_true rfl) dX4_init_1 ?_
  refine lv_aload_n B.hx B.hb dX4_init_4 rfl (lv_at hl 0 rfl) ?_
  refine lv_iconst (v := 3) B.hx B.hb dX4_init_5 (by decide) ?_
  refine i_newi B h hA 3 (by decide +kernel) (by decide +kernel) (Nat.le_of_ble_eq_true rfl) (Nat.le_of_ble_eq_true rfl) (Nat.le_of_ble_eq_true rfl) dX4_init_6 (fun q1 H h => ?_)
  have h : HI X A s ([(h0, .inr (4, [.null, .null, .null, .null, .null, .null, .null, .null, .null, .int 0, .int 0, .int 0, .int 0, .int 0, .int 0])), (q1, .inl (X.2.1 0, 3, .inl (fun _ => 0)))]) H [] := h
  refine i_putF (ty := .array (.int)) (k := 0) (T := TX4) (v := .ref q1) B hin h rfl in_X4 tyX4 tyX4_ok nmX4 (by decide) kf_X4_9 rfl rfl (by decide +kernel) rfl rfl (Nat.le_of_ble_eq_true rfl) dX4_init_8 (fun H locs h => ?_)
  have h : HI X A s ([(h0, .inr (4, [.ref q1, .null, .null, .null, .null, .null, .null, .null, .null, .int 0, .int 0, .int 0, .int 0, .int 0, .int 0])), (q1, .inl (X.2.1 0, 3, .inl (fun _ => 0)))]) H locs := h
  refine i_pc (pc' := 11) (c' := 1) (s' := 3) rfl rfl rfl ?_
  refine lv_aload_n B.hx B.hb dX4_init_11 rfl (lv_at hl 0 rfl) ?_
  refine lv_bipush (v := 6) B.hx B.hb dX4_init_12 (by decide) ?_
  refine i_newi B h hA 6 (by decide +kernel) (by decide +kernel) (Nat.le_of_ble_eq_true rfl) (Nat.le_of_ble_eq_true rfl) (Nat.le_of_ble_eq_true rfl) dX4_init_14 (fun q2 H h => ?_)
  have h : HI X A s ([(h0, .inr (4, [.ref q1, .null, .null, .null, .null, .null, .null, .null, .null, .int 0, .int 0, .int 0, .int 0, .int 0, .int 0])), (q1, .inl (X.2.1 0, 3, .inl (fun _ => 0))), (q2, .inl (X.2.1 0, 6, .inl (fun _ => 0)))]) H locs := h
  refine i_putF (ty := .array (.int)) (k := 1) (T := TX4) (v := .ref q2) B hin h rfl in_X4 tyX4 tyX4_ok nmX4 (by decide) kf_X4_15 rfl rfl (by decide +kernel) rfl rfl (Nat.le_of_ble_eq_true rfl) dX4_init_16 (fun H locs h => ?_)
  have h : HI X A s ([(h0, .inr (4, [.ref q1, .ref q2, .null, .null, .null, .null, .null, .null, .null, .int 0, .int 0, .int 0, .int 0, .int 0, .int 0])), (q1, .inl (X.2.1 0, 3, .inl (fun _ => 0))), (q2, .inl (X.2.1 0, 6, .inl (fun _ => 0)))]) H locs := h
  refine i_pc (pc' := 19) (c' := 2) (s' := 9) rfl rfl rfl ?_
  refine lv_aload_n B.hx B.hb dX4_init_19 rfl (lv_at hl 0 rfl) ?_
  refine lv_bipush (v := 6) B.hx B.hb dX4_init_20 (by decide) ?_
  refine i_newi B h hA 6 (by decide +kernel) (by decide +kernel) (Nat.le_of_ble_eq_true rfl) (Nat.le_of_ble_eq_true rfl) (Nat.le_of_ble_eq_true rfl) dX4_init_22 (fun q3 H h => ?_)
  have h : HI X A s ([(h0, .inr (4, [.ref q1, .ref q2, .null, .null, .null, .null, .null, .null, .null, .int 0, .int 0, .int 0, .int 0, .int 0, .int 0])), (q1, .inl (X.2.1 0, 3, .inl (fun _ => 0))), (q2, .inl (X.2.1 0, 6, .inl (fun _ => 0))), (q3, .inl (X.2.1 0, 6, .inl (fun _ => 0)))]) H locs := h
  refine i_putF (ty := .array (.int)) (k := 2) (T := TX4) (v := .ref q3) B hin h rfl in_X4 tyX4 tyX4_ok nmX4 (by decide) kf_X4_18 rfl rfl (by decide +kernel) rfl rfl (Nat.le_of_ble_eq_true rfl) dX4_init_24 (fun H locs h => ?_)
  have h : HI X A s ([(h0, .inr (4, [.ref q1, .ref q2, .ref q3, .null, .null, .null, .null, .null, .null, .int 0, .int 0, .int 0, .int 0, .int 0, .int 0])), (q1, .inl (X.2.1 0, 3, .inl (fun _ => 0))), (q2, .inl (X.2.1 0, 6, .inl (fun _ => 0))), (q3, .inl (X.2.1 0, 6, .inl (fun _ => 0)))]) H locs := h
  refine i_pc (pc' := 27) (c' := 3) (s' := 15) rfl rfl rfl ?_
  refine lv_aload_n B.hx B.hb dX4_init_27 rfl (lv_at hl 0 rfl) ?_
  refine lv_iconst (v := 4) B.hx B.hb dX4_init_28 (by decide) ?_
  refine i_newi B h hA 4 (by decide +kernel) (by decide +kernel) (Nat.le_of_ble_eq_true rfl) (Nat.le_of_ble_eq_true rfl) (Nat.le_of_ble_eq_true rfl) dX4_init_29 (fun q4 H h => ?_)
  have h : HI X A s ([(h0, .inr (4, [.ref q1, .ref q2, .ref q3, .null, .null, .null, .null, .null, .null, .int 0, .int 0, .int 0, .int 0, .int 0, .int 0])), (q1, .inl (X.2.1 0, 3, .inl (fun _ => 0))), (q2, .inl (X.2.1 0, 6, .inl (fun _ => 0))), (q3, .inl (X.2.1 0, 6, .inl (fun _ => 0))), (q4, .inl (X.2.1 0, 4, .inl (fun _ => 0)))]) H locs := h
  refine i_putF (ty := .array (.int)) (k := 3) (T := TX4) (v := .ref q4) B hin h rfl in_X4 tyX4 tyX4_ok nmX4 (by decide) kf_X4_21 rfl rfl (by decide +kernel) rfl rfl (Nat.le_of_ble_eq_true rfl) dX4_init_31 (fun H locs h => ?_)
  have h : HI X A s ([(h0, .inr (4, [.ref q1, .ref q2, .ref q3, .ref q4, .null, .null, .null, .null, .null, .int 0, .int 0, .int 0, .int 0, .int 0, .int 0])), (q1, .inl (X.2.1 0, 3, .inl (fun _ => 0))), (q2, .inl (X.2.1 0, 6, .inl (fun _ => 0))), (q3, .inl (X.2.1 0, 6, .inl (fun _ => 0))), (q4, .inl (X.2.1 0, 4, .inl (fun _ => 0)))]) H locs := h
  refine i_pc (pc' := 34) (c' := 4) (s' := 19) rfl rfl rfl ?_
  refine lv_aload_n B.hx B.hb dX4_init_34 rfl (lv_at hl 0 rfl) ?_
  refine lv_iconst (v := 4) B.hx B.hb dX4_init_35 (by decide) ?_
  refine i_newi B h hA 4 (by decide +kernel) (by decide +kernel) (Nat.le_of_ble_eq_true rfl) (Nat.le_of_ble_eq_true rfl) (Nat.le_of_ble_eq_true rfl) dX4_init_36 (fun q5 H h => ?_)
  have h : HI X A s ([(h0, .inr (4, [.ref q1, .ref q2, .ref q3, .ref q4, .null, .null, .null, .null, .null, .int 0, .int 0, .int 0, .int 0, .int 0, .int 0])), (q1, .inl (X.2.1 0, 3, .inl (fun _ => 0))), (q2, .inl (X.2.1 0, 6, .inl (fun _ => 0))), (q3, .inl (X.2.1 0, 6, .inl (fun _ => 0))), (q4, .inl (X.2.1 0, 4, .inl (fun _ => 0))), (q5, .inl (X.2.1 0, 4, .inl (fun _ => 0)))]) H locs := h
  refine i_putF (ty := .array (.int)) (k := 4) (T := TX4) (v := .ref q5) B hin h rfl in_X4 tyX4 tyX4_ok nmX4 (by decide) kf_X4_24 rfl rfl (by decide +kernel) rfl rfl (Nat.le_of_ble_eq_true rfl) dX4_init_38 (fun H locs h => ?_)
  have h : HI X A s ([(h0, .inr (4, [.ref q1, .ref q2, .ref q3, .ref q4, .ref q5, .null, .null, .null, .null, .int 0, .int 0, .int 0, .int 0, .int 0, .int 0])), (q1, .inl (X.2.1 0, 3, .inl (fun _ => 0))), (q2, .inl (X.2.1 0, 6, .inl (fun _ => 0))), (q3, .inl (X.2.1 0, 6, .inl (fun _ => 0))), (q4, .inl (X.2.1 0, 4, .inl (fun _ => 0))), (q5, .inl (X.2.1 0, 4, .inl (fun _ => 0)))]) H locs := h
  refine i_pc (pc' := 41) (c' := 5) (s' := 23) rfl rfl rfl ?_
  refine lv_aload_n B.hx B.hb dX4_init_41 rfl (lv_at hl 0 rfl) ?_
  refine lv_iconst (v := 4) B.hx B.hb dX4_init_42 (by decide) ?_
  refine i_newi B h hA 4 (by decide +kernel) (by decide +kernel) (Nat.le_of_ble_eq_true rfl) (Nat.le_of_ble_eq_true rfl) (Nat.le_of_ble_eq_true rfl) dX4_init_43 (fun q6 H h => ?_)
  have h : HI X A s ([(h0, .inr (4, [.ref q1, .ref q2, .ref q3, .ref q4, .ref q5, .null, .null, .null, .null, .int 0, .int 0, .int 0, .int 0, .int 0, .int 0])), (q1, .inl (X.2.1 0, 3, .inl (fun _ => 0))), (q2, .inl (X.2.1 0, 6, .inl (fun _ => 0))), (q3, .inl (X.2.1 0, 6, .inl (fun _ => 0))), (q4, .inl (X.2.1 0, 4, .inl (fun _ => 0))), (q5, .inl (X.2.1 0, 4, .inl (fun _ => 0))), (q6, .inl (X.2.1 0, 4, .inl (fun _ => 0)))]) H locs := h
  refine i_putF (ty := .array (.int)) (k := 5) (T := TX4) (v := .ref q6) B hin h rfl in_X4 tyX4 tyX4_ok nmX4 (by decide) kf_X4_27 rfl rfl (by decide +kernel) rfl rfl (Nat.le_of_ble_eq_true rfl) dX4_init_45 (fun H locs h => ?_)
  have h : HI X A s ([(h0, .inr (4, [.ref q1, .ref q2, .ref q3, .ref q4, .ref q5, .ref q6, .null, .null, .null, .int 0, .int 0, .int 0, .int 0, .int 0, .int 0])), (q1, .inl (X.2.1 0, 3, .inl (fun _ => 0))), (q2, .inl (X.2.1 0, 6, .inl (fun _ => 0))), (q3, .inl (X.2.1 0, 6, .inl (fun _ => 0))), (q4, .inl (X.2.1 0, 4, .inl (fun _ => 0))), (q5, .inl (X.2.1 0, 4, .inl (fun _ => 0))), (q6, .inl (X.2.1 0, 4, .inl (fun _ => 0)))]) H locs := h
  refine i_pc (pc' := 48) (c' := 6) (s' := 27) rfl rfl rfl ?_
  refine lv_aload_n B.hx B.hb dX4_init_48 rfl (lv_at hl 0 rfl) ?_
  refine lv_iconst (v := 4) B.hx B.hb dX4_init_49 (by decide) ?_
  refine i_newi B h hA 4 (by decide +kernel) (by decide +kernel) (Nat.le_of_ble_eq_true rfl) (Nat.le_of_ble_eq_true rfl) (Nat.le_of_ble_eq_true rfl) dX4_init_50 (fun q7 H h => ?_)
  have h : HI X A s ([(h0, .inr (4, [.ref q1, .ref q2, .ref q3, .ref q4, .ref q5, .ref q6, .null, .null, .null, .int 0, .int 0, .int 0, .int 0, .int 0, .int 0])), (q1, .inl (X.2.1 0, 3, .inl (fun _ => 0))), (q2, .inl (X.2.1 0, 6, .inl (fun _ => 0))), (q3, .inl (X.2.1 0, 6, .inl (fun _ => 0))), (q4, .inl (X.2.1 0, 4, .inl (fun _ => 0))), (q5, .inl (X.2.1 0, 4, .inl (fun _ => 0))), (q6, .inl (X.2.1 0, 4, .inl (fun _ => 0))), (q7, .inl (X.2.1 0, 4, .inl (fun _ => 0)))]) H locs := h
  refine i_putF (ty := .array (.int)) (k := 6) (T := TX4) (v := .ref q7) B hin h rfl in_X4 tyX4 tyX4_ok nmX4 (by decide) kf_X4_30 rfl rfl (by decide +kernel) rfl rfl (Nat.le_of_ble_eq_true rfl) dX4_init_52 (fun H locs h => ?_)
  have h : HI X A s ([(h0, .inr (4, [.ref q1, .ref q2, .ref q3, .ref q4, .ref q5, .ref q6, .ref q7, .null, .null, .int 0, .int 0, .int 0, .int 0, .int 0, .int 0])), (q1, .inl (X.2.1 0, 3, .inl (fun _ => 0))), (q2, .inl (X.2.1 0, 6, .inl (fun _ => 0))), (q3, .inl (X.2.1 0, 6, .inl (fun _ => 0))), (q4, .inl (X.2.1 0, 4, .inl (fun _ => 0))), (q5, .inl (X.2.1 0, 4, .inl (fun _ => 0))), (q6, .inl (X.2.1 0, 4, .inl (fun _ => 0))), (q7, .inl (X.2.1 0, 4, .inl (fun _ => 0)))]) H locs := h
  refine i_pc (pc' := 55) (c' := 7) (s' := 31) rfl rfl rfl ?_
  refine lv_aload_n B.hx B.hb dX4_init_55 rfl (lv_at hl 0 rfl) ?_
  refine lv_iconst (v := 3) B.hx B.hb dX4_init_56 (by decide) ?_
  refine i_newi B h hA 3 (by decide +kernel) (by decide +kernel) (Nat.le_of_ble_eq_true rfl) (Nat.le_of_ble_eq_true rfl) (Nat.le_of_ble_eq_true rfl) dX4_init_57 (fun q8 H h => ?_)
  have h : HI X A s ([(h0, .inr (4, [.ref q1, .ref q2, .ref q3, .ref q4, .ref q5, .ref q6, .ref q7, .null, .null, .int 0, .int 0, .int 0, .int 0, .int 0, .int 0])), (q1, .inl (X.2.1 0, 3, .inl (fun _ => 0))), (q2, .inl (X.2.1 0, 6, .inl (fun _ => 0))), (q3, .inl (X.2.1 0, 6, .inl (fun _ => 0))), (q4, .inl (X.2.1 0, 4, .inl (fun _ => 0))), (q5, .inl (X.2.1 0, 4, .inl (fun _ => 0))), (q6, .inl (X.2.1 0, 4, .inl (fun _ => 0))), (q7, .inl (X.2.1 0, 4, .inl (fun _ => 0))), (q8, .inl (X.2.1 0, 3, .inl (fun _ => 0)))]) H locs := h
  refine i_putF (ty := .array (.int)) (k := 7) (T := TX4) (v := .ref q8) B hin h rfl in_X4 tyX4 tyX4_ok nmX4 (by decide) kf_X4_33 rfl rfl (by decide +kernel) rfl rfl (Nat.le_of_ble_eq_true rfl) dX4_init_59 (fun H locs h => ?_)
  have h : HI X A s ([(h0, .inr (4, [.ref q1, .ref q2, .ref q3, .ref q4, .ref q5, .ref q6, .ref q7, .ref q8, .null, .int 0, .int 0, .int 0, .int 0, .int 0, .int 0])), (q1, .inl (X.2.1 0, 3, .inl (fun _ => 0))), (q2, .inl (X.2.1 0, 6, .inl (fun _ => 0))), (q3, .inl (X.2.1 0, 6, .inl (fun _ => 0))), (q4, .inl (X.2.1 0, 4, .inl (fun _ => 0))), (q5, .inl (X.2.1 0, 4, .inl (fun _ => 0))), (q6, .inl (X.2.1 0, 4, .inl (fun _ => 0))), (q7, .inl (X.2.1 0, 4, .inl (fun _ => 0))), (q8, .inl (X.2.1 0, 3, .inl (fun _ => 0)))]) H locs := h
  refine i_pc (pc' := 62) (c' := 8) (s' := 34) rfl rfl rfl ?_
  refine lv_aload_n B.hx B.hb dX4_init_62 rfl (lv_at hl 0 rfl) ?_
  refine lv_iconst (v := 3) B.hx B.hb dX4_init_63 (by decide) ?_
  refine i_newi B h hA 3 (by decide +kernel) (by decide +kernel) (Nat.le_of_ble_eq_true rfl) (Nat.le_of_ble_eq_true rfl) (Nat.le_of_ble_eq_true rfl) dX4_init_64 (fun q9 H h => ?_)
  have h : HI X A s ([(h0, .inr (4, [.ref q1, .ref q2, .ref q3, .ref q4, .ref q5, .ref q6, .ref q7, .ref q8, .null, .int 0, .int 0, .int 0, .int 0, .int 0, .int 0])), (q1, .inl (X.2.1 0, 3, .inl (fun _ => 0))), (q2, .inl (X.2.1 0, 6, .inl (fun _ => 0))), (q3, .inl (X.2.1 0, 6, .inl (fun _ => 0))), (q4, .inl (X.2.1 0, 4, .inl (fun _ => 0))), (q5, .inl (X.2.1 0, 4, .inl (fun _ => 0))), (q6, .inl (X.2.1 0, 4, .inl (fun _ => 0))), (q7, .inl (X.2.1 0, 4, .inl (fun _ => 0))), (q8, .inl (X.2.1 0, 3, .inl (fun _ => 0))), (q9, .inl (X.2.1 0, 3, .inl (fun _ => 0)))]) H locs := h
  refine i_putF (ty := .array (.int)) (k := 8) (T := TX4) (v := .ref q9) B hin h rfl in_X4 tyX4 tyX4_ok nmX4 (by decide) kf_X4_36 rfl rfl (by decide +kernel) rfl rfl (Nat.le_of_ble_eq_true rfl) dX4_init_66 (fun H locs h => ?_)
  have h : HI X A s ([(h0, .inr (4, [.ref q1, .ref q2, .ref q3, .ref q4, .ref q5, .ref q6, .ref q7, .ref q8, .ref q9, .int 0, .int 0, .int 0, .int 0, .int 0, .int 0])), (q1, .inl (X.2.1 0, 3, .inl (fun _ => 0))), (q2, .inl (X.2.1 0, 6, .inl (fun _ => 0))), (q3, .inl (X.2.1 0, 6, .inl (fun _ => 0))), (q4, .inl (X.2.1 0, 4, .inl (fun _ => 0))), (q5, .inl (X.2.1 0, 4, .inl (fun _ => 0))), (q6, .inl (X.2.1 0, 4, .inl (fun _ => 0))), (q7, .inl (X.2.1 0, 4, .inl (fun _ => 0))), (q8, .inl (X.2.1 0, 3, .inl (fun _ => 0))), (q9, .inl (X.2.1 0, 3, .inl (fun _ => 0)))]) H locs := h
  refine i_pc (pc' := 69) (c' := 9) (s' := 37) rfl rfl rfl ?_
  refine lv_aload_n B.hx B.hb dX4_init_69 rfl (lv_at hl 0 rfl) ?_
  refine lv_bipush (v := 40) B.hx B.hb dX4_init_70 (by decide) ?_
  refine i_put (ty := .int) (k := 13) (T := TX4) (v := .int 40) B h rfl in_X4 tyX4 tyX4_ok nmX4 (by decide) kf_X4_39 rfl (by decide +kernel) rfl rfl (Nat.le_of_ble_eq_true rfl) dX4_init_72 (fun H locs h => ?_)
  have h : HI X A s ([(h0, .inr (4, [.ref q1, .ref q2, .ref q3, .ref q4, .ref q5, .ref q6, .ref q7, .ref q8, .ref q9, .int 0, .int 0, .int 0, .int 0, .int 40, .int 0])), (q1, .inl (X.2.1 0, 3, .inl (fun _ => 0))), (q2, .inl (X.2.1 0, 6, .inl (fun _ => 0))), (q3, .inl (X.2.1 0, 6, .inl (fun _ => 0))), (q4, .inl (X.2.1 0, 4, .inl (fun _ => 0))), (q5, .inl (X.2.1 0, 4, .inl (fun _ => 0))), (q6, .inl (X.2.1 0, 4, .inl (fun _ => 0))), (q7, .inl (X.2.1 0, 4, .inl (fun _ => 0))), (q8, .inl (X.2.1 0, 3, .inl (fun _ => 0))), (q9, .inl (X.2.1 0, 3, .inl (fun _ => 0)))]) H locs := h
  refine i_pc (pc' := 75) (c' := 9) (s' := 37) rfl rfl rfl ?_
  exact i_vret B hr hlk h (fun i => (if i < 5 then (if i < 3 then (if i < 2 then q1 else q2) else (if i < 4 then q3 else q4)) else (if i < 7 then (if i < 6 then q5 else q6) else (if i < 8 then q7 else (if i < 9 then q8 else q9))))) rfl dX4_init_75
abbrev rmi_X3 : Room := { frames := 3, cells := 45, slots := 528, locals := 62 }
set_option maxHeartbeats 4000000 in
set_option maxRecDepth 100000 in
theorem c_X3_init (l : Launch) (X : XT) (h0 t : Nat) (sz : Nat) : Met l yX3_init (wbig yX3_init cX3_init 3 none) rmi_X3 (va_Pc [.ref h0, .ref t] (IP X [(h0, .inr (3, [.null, .null, .null, .null, .int 0]))] sz)) (QN X [(h0, .inr (3, [.null, .null, .null, .null, .int 0]))] sz (wX3 X t h0)) 45 528 (va_A [(h0, .inr (3, [.null, .null, .null, .null, .int 0]))] sz) := by
  refine init_go (Bp := wX3 X t h0) (by decide +kernel) (Nat.le_of_ble_eq_true rfl) ?_
  intro p e s m args below meth c A hA B hr hlk hin h ls hl
  have hl : lv_has ls 3 [(0, .ref h0), (1, .ref t)] := hl
  refine lv_aload_n B.hx B.hb dX3_init_0 rfl (lv_at hl 0 rfl) ?_
  refine i_obj B hl.1 (big_at 51 (by decide +kernel) (by decide +kernel)) (Nat.le_of_ble_eq_true rfl) (Nat.le_of_ble_eq_true rfl) dX3_init_1 ?_
  refine lv_aload_n B.hx B.hb dX3_init_4 rfl (lv_at hl 0 rfl) ?_
  refine lv_bipush (v := 6) B.hx B.hb dX3_init_5 (by decide) ?_
  refine i_newq B h hA 3 rfl (big_at 52 (by decide +kernel) (by decide +kernel)) B.hN.2.1 6 (by decide +kernel) (by decide +kernel) (Nat.le_of_ble_eq_true rfl) (Nat.le_of_ble_eq_true rfl) (Nat.le_of_ble_eq_true rfl) dX3_init_7 (fun q1 H h => ?_)
  have h : HI X A s ([(h0, .inr (3, [.null, .null, .null, .null, .int 0])), (q1, .inl (X.2.1 3, 6, .inr (.inr (.inr (.inr (fun _ => none))))))]) H [] := h
  refine i_putF (ty := .array (.object "QueryHarbor$Entry")) (k := 1) (T := TX3) (v := .ref q1) B hin h rfl in_X3 tyX3 tyX3_ok nmX3 (by decide) kf_X3_11 rfl rfl (by decide +kernel) rfl rfl (Nat.le_of_ble_eq_true rfl) dX3_init_10 (fun H locs h => ?_)
  have h : HI X A s ([(h0, .inr (3, [.null, .ref q1, .null, .null, .int 0])), (q1, .inl (X.2.1 3, 6, .inr (.inr (.inr (.inr (fun _ => none))))))]) H locs := h
  refine i_pc (pc' := 13) (c' := 1) (s' := 6) rfl rfl rfl ?_
  refine lv_aload_n B.hx B.hb dX3_init_13 rfl (lv_at hl 0 rfl) ?_
  refine lv_iconst (v := 3) B.hx B.hb dX3_init_14 (by decide) ?_
  refine i_newi B h hA 3 (by decide +kernel) (by decide +kernel) (Nat.le_of_ble_eq_true rfl) (Nat.le_of_ble_eq_true rfl) (Nat.le_of_ble_eq_true rfl) dX3_init_15 (fun q2 H h => ?_)
  have h : HI X A s ([(h0, .inr (3, [.null, .ref q1, .null, .null, .int 0])), (q1, .inl (X.2.1 3, 6, .inr (.inr (.inr (.inr (fun _ => none)))))), (q2, .inl (X.2.1 0, 3, .inl (fun _ => 0)))]) H locs := h
  refine i_putF (ty := .array (.int)) (k := 2) (T := TX3) (v := .ref q2) B hin h rfl in_X3 tyX3 tyX3_ok nmX3 (by decide) kf_X3_17 rfl rfl (by decide +kernel) rfl rfl (Nat.le_of_ble_eq_true rfl) dX3_init_17 (fun H locs h => ?_)
  have h : HI X A s ([(h0, .inr (3, [.null, .ref q1, .ref q2, .null, .int 0])), (q1, .inl (X.2.1 3, 6, .inr (.inr (.inr (.inr (fun _ => none)))))), (q2, .inl (X.2.1 0, 3, .inl (fun _ => 0)))]) H locs := h
  refine i_pc (pc' := 20) (c' := 2) (s' := 9) rfl rfl rfl ?_
  refine lv_aload_n B.hx B.hb dX3_init_20 rfl (lv_at hl 0 rfl) ?_
  refine lv_iconst (v := 3) B.hx B.hb dX3_init_21 (by decide) ?_
  refine i_newi B h hA 3 (by decide +kernel) (by decide +kernel) (Nat.le_of_ble_eq_true rfl) (Nat.le_of_ble_eq_true rfl) (Nat.le_of_ble_eq_true rfl) dX3_init_22 (fun q3 H h => ?_)
  have h : HI X A s ([(h0, .inr (3, [.null, .ref q1, .ref q2, .null, .int 0])), (q1, .inl (X.2.1 3, 6, .inr (.inr (.inr (.inr (fun _ => none)))))), (q2, .inl (X.2.1 0, 3, .inl (fun _ => 0))), (q3, .inl (X.2.1 0, 3, .inl (fun _ => 0)))]) H locs := h
  refine i_putF (ty := .array (.int)) (k := 3) (T := TX3) (v := .ref q3) B hin h rfl in_X3 tyX3 tyX3_ok nmX3 (by decide) kf_X3_21 rfl rfl (by decide +kernel) rfl rfl (Nat.le_of_ble_eq_true rfl) dX3_init_24 (fun H locs h => ?_)
  have h : HI X A s ([(h0, .inr (3, [.null, .ref q1, .ref q2, .ref q3, .int 0])), (q1, .inl (X.2.1 3, 6, .inr (.inr (.inr (.inr (fun _ => none)))))), (q2, .inl (X.2.1 0, 3, .inl (fun _ => 0))), (q3, .inl (X.2.1 0, 3, .inl (fun _ => 0)))]) H locs := h
  refine i_pc (pc' := 27) (c' := 3) (s' := 12) rfl rfl rfl ?_
  refine lv_aload_n B.hx B.hb dX3_init_27 rfl (lv_at hl 0 rfl) ?_
  refine lv_aload_n B.hx B.hb dX3_init_28 rfl (lv_at hl 1 rfl) ?_
  refine i_putF (ty := .object "QueryHarbor$Time") (k := 0) (T := TX3) (v := .ref t) B hin h rfl in_X3 tyX3 tyX3_ok nmX3 (by decide) kf_X3_24 rfl rfl (by decide +kernel) rfl rfl (Nat.le_of_ble_eq_true rfl) dX3_init_29 (fun H locs h => ?_)
  have h : HI X A s ([(h0, .inr (3, [.ref t, .ref q1, .ref q2, .ref q3, .int 0])), (q1, .inl (X.2.1 3, 6, .inr (.inr (.inr (.inr (fun _ => none)))))), (q2, .inl (X.2.1 0, 3, .inl (fun _ => 0))), (q3, .inl (X.2.1 0, 3, .inl (fun _ => 0)))]) H locs := h
  refine i_pc (pc' := 32) (c' := 3) (s' := 12) rfl rfl rfl ?_
  refine lv_iconst (v := 0) B.hx B.hb dX3_init_32 (by decide) ?_
  refine lv_istore_n (lv' := [(2, .int 0), (0, .ref h0), (1, .ref t)]) B.hx B.hb dX3_init_33 rfl hl (by decide) rfl (fun ls hl => ?_)
  refine lv_iload_n B.hx B.hb dX3_init_34 rfl (lv_at hl 0 rfl) ?_
  refine lv_bipush (v := 6) B.hx B.hb dX3_init_35 (by decide) ?_
  refine lv_icmp_ge (tgt := 59) B.hx B.hb dX3_init_37 (by decide) (fun c9 => absurd c9 (by decide)) (fun _ => ?_)
  refine lv_aload_n B.hx B.hb dX3_init_40 rfl (lv_at hl 1 rfl) ?_
  refine i_getf B h 0 (k := 1) (T := TX3) rfl rfl in_X3 (by decide) kf_X3_11 rfl dX3_init_41 ?_
  refine lv_iload_n B.hx B.hb dX3_init_44 rfl (lv_at hl 0 rfl) ?_
  refine i_new (ci := 5) (fs := [.null, .null, .null, .null, .int 0, .int 0, .int 0, .int 0, .int 0, .int 0, .int 0]) B h hA rfl in_X5 tyX5 tyX5_ok (big_at 52 (by decide +kernel) (by decide +kernel)) (big_at 54 (by decide +kernel) (by decide +kernel)) ki_X5 (fun j hj => by rcases (show j = 0 ∨ j = 1 ∨ j = 2 ∨ j = 3 ∨ j = 4 ∨ j = 5 ∨ j = 6 ∨ j = 7 ∨ j = 8 ∨ j = 9 ∨ j = 10 by omega) with rfl | rfl | rfl | rfl | rfl | rfl | rfl | rfl | rfl | rfl | rfl <;> rfl) (Nat.le_of_ble_eq_true rfl) (Nat.le_of_ble_eq_true rfl) dX3_init_45 (fun q4 H h => ?_)
  refine lv_dup B.hx B.hb dX3_init_48 rfl ?_
  refine i_callN (As := []) (rest := [.ref q4, .int 0, .ref q1]) (n := 0) (host := "QueryHarbor") B h hA (c_X5_init l X q4  H.size) hl.1 kc_X5_init (List.mem_of_getElem? (i := 1) (by decide +kernel)) ki_X5 kn_X5_init rfl ⟨by decide +kernel, by decide +kernel, by decide +kernel⟩ rfl rfl rfl ⟨(Nat.le_of_ble_eq_true rfl), (Nat.le_of_ble_eq_true rfl)⟩ (Nat.le_of_ble_eq_true rfl) ⟨(Nat.le_of_ble_eq_true rfl), (Nat.le_of_ble_eq_true rfl)⟩ dX3_init_49 rfl (fun u5 H locs h => ?_)
  have h : HI X A s ((h0, .inr (3, [.ref t, .ref q1, .ref q2, .ref q3, .int 0])) :: (q1, .inl (X.2.1 3, 6, .inr (.inr (.inr (.inr (fun _ => none)))))) :: (q2, .inl (X.2.1 0, 3, .inl (fun _ => 0))) :: (q3, .inl (X.2.1 0, 3, .inl (fun _ => 0))) :: (wX5 X q4 u5)) H locs := h
  refine i_pc (pc' := 52) (c' := 10) (s' := 98) rfl rfl rfl ?_
  refine i_fillR B (x := 0) 3 1 4 h rfl rfl rfl rfl (by decide) dX3_init_52 (fun H locs h => ?_)
  have h : HI X A s ((h0, .inr (3, [.ref t, .ref q1, .ref q2, .ref q3, .int 0])) :: (q1, .inl (X.2.1 3, 6, .inr (.inr (.inr (.inr (va_up (fun _ => none) (0 : Int32).toNatClampNeg (some q4))))))) :: (q2, .inl (X.2.1 0, 3, .inl (fun _ => 0))) :: (q3, .inl (X.2.1 0, 3, .inl (fun _ => 0))) :: (wX5 X q4 u5)) H locs := h
  refine i_pc (pc' := 53) (c' := 10) (s' := 98) rfl rfl rfl ?_
  refine lv_iinc (v := 1) (lv' := [(2, .int 1), (0, .ref h0), (1, .ref t)]) B.hx B.hb dX3_init_53 hl (k := 0) rfl (by decide) (by decide) rfl (fun ls hl => ?_)
  refine lv_goto (tgt := 34) B.hx B.hb dX3_init_56 (by decide) ?_
  refine lv_iload_n B.hx B.hb dX3_init_34 rfl (lv_at hl 0 rfl) ?_
  refine lv_bipush (v := 6) B.hx B.hb dX3_init_35 (by decide) ?_
  refine lv_icmp_ge (tgt := 59) B.hx B.hb dX3_init_37 (by decide) (fun c9 => absurd c9 (by decide)) (fun _ => ?_)
  refine lv_aload_n B.hx B.hb dX3_init_40 rfl (lv_at hl 1 rfl) ?_
  refine i_getf B h 0 (k := 1) (T := TX3) rfl rfl in_X3 (by decide) kf_X3_11 rfl dX3_init_41 ?_
  refine lv_iload_n B.hx B.hb dX3_init_44 rfl (lv_at hl 0 rfl) ?_
  refine i_new (ci := 5) (fs := [.null, .null, .null, .null, .int 0, .int 0, .int 0, .int 0, .int 0, .int 0, .int 0]) B h hA rfl in_X5 tyX5 tyX5_ok (big_at 52 (by decide +kernel) (by decide +kernel)) (big_at 54 (by decide +kernel) (by decide +kernel)) ki_X5 (fun j hj => by rcases (show j = 0 ∨ j = 1 ∨ j = 2 ∨ j = 3 ∨ j = 4 ∨ j = 5 ∨ j = 6 ∨ j = 7 ∨ j = 8 ∨ j = 9 ∨ j = 10 by omega) with rfl | rfl | rfl | rfl | rfl | rfl | rfl | rfl | rfl | rfl | rfl <;> rfl) (Nat.le_of_ble_eq_true rfl) (Nat.le_of_ble_eq_true rfl) dX3_init_45 (fun q6 H h => ?_)
  refine lv_dup B.hx B.hb dX3_init_48 rfl ?_
  refine i_callN (As := []) (rest := [.ref q6, .int 1, .ref q1]) (n := 0) (host := "QueryHarbor") B h hA (c_X5_init l X q6  H.size) hl.1 kc_X5_init (List.mem_of_getElem? (i := 1) (by decide +kernel)) ki_X5 kn_X5_init rfl ⟨by decide +kernel, by decide +kernel, by decide +kernel⟩ rfl rfl rfl ⟨(Nat.le_of_ble_eq_true rfl), (Nat.le_of_ble_eq_true rfl)⟩ (Nat.le_of_ble_eq_true rfl) ⟨(Nat.le_of_ble_eq_true rfl), (Nat.le_of_ble_eq_true rfl)⟩ dX3_init_49 rfl (fun u7 H locs h => ?_)
  have h : HI X A s ((h0, .inr (3, [.ref t, .ref q1, .ref q2, .ref q3, .int 0])) :: (q1, .inl (X.2.1 3, 6, .inr (.inr (.inr (.inr (va_up (fun _ => none) (0 : Int32).toNatClampNeg (some q4))))))) :: (q2, .inl (X.2.1 0, 3, .inl (fun _ => 0))) :: (q3, .inl (X.2.1 0, 3, .inl (fun _ => 0))) :: (wX5 X q4 u5 ++ wX5 X q6 u7)) H locs := h
  refine i_pc (pc' := 52) (c' := 17) (s' := 184) rfl rfl rfl ?_
  refine i_fillR B (x := 1) 3 1 11 h rfl rfl rfl rfl (by decide) dX3_init_52 (fun H locs h => ?_)
  have h : HI X A s ((h0, .inr (3, [.ref t, .ref q1, .ref q2, .ref q3, .int 0])) :: (q1, .inl (X.2.1 3, 6, .inr (.inr (.inr (.inr (va_up (va_up (fun _ => none) (0 : Int32).toNatClampNeg (some q4)) (1 : Int32).toNatClampNeg (some q6))))))) :: (q2, .inl (X.2.1 0, 3, .inl (fun _ => 0))) :: (q3, .inl (X.2.1 0, 3, .inl (fun _ => 0))) :: (wX5 X q4 u5 ++ wX5 X q6 u7)) H locs := h
  refine i_pc (pc' := 53) (c' := 17) (s' := 184) rfl rfl rfl ?_
  refine lv_iinc (v := 2) (lv' := [(2, .int 2), (0, .ref h0), (1, .ref t)]) B.hx B.hb dX3_init_53 hl (k := 0) rfl (by decide) (by decide) rfl (fun ls hl => ?_)
  refine lv_goto (tgt := 34) B.hx B.hb dX3_init_56 (by decide) ?_
  refine lv_iload_n B.hx B.hb dX3_init_34 rfl (lv_at hl 0 rfl) ?_
  refine lv_bipush (v := 6) B.hx B.hb dX3_init_35 (by decide) ?_
  refine lv_icmp_ge (tgt := 59) B.hx B.hb dX3_init_37 (by decide) (fun c9 => absurd c9 (by decide)) (fun _ => ?_)
  refine lv_aload_n B.hx B.hb dX3_init_40 rfl (lv_at hl 1 rfl) ?_
  refine i_getf B h 0 (k := 1) (T := TX3) rfl rfl in_X3 (by decide) kf_X3_11 rfl dX3_init_41 ?_
  refine lv_iload_n B.hx B.hb dX3_init_44 rfl (lv_at hl 0 rfl) ?_
  refine i_new (ci := 5) (fs := [.null, .null, .null, .null, .int 0, .int 0, .int 0, .int 0, .int 0, .int 0, .int 0]) B h hA rfl in_X5 tyX5 tyX5_ok (big_at 52 (by decide +kernel) (by decide +kernel)) (big_at 54 (by decide +kernel) (by decide +kernel)) ki_X5 (fun j hj => by rcases (show j = 0 ∨ j = 1 ∨ j = 2 ∨ j = 3 ∨ j = 4 ∨ j = 5 ∨ j = 6 ∨ j = 7 ∨ j = 8 ∨ j = 9 ∨ j = 10 by omega) with rfl | rfl | rfl | rfl | rfl | rfl | rfl | rfl | rfl | rfl | rfl <;> rfl) (Nat.le_of_ble_eq_true rfl) (Nat.le_of_ble_eq_true rfl) dX3_init_45 (fun q8 H h => ?_)
  refine lv_dup B.hx B.hb dX3_init_48 rfl ?_
  refine i_callN (As := []) (rest := [.ref q8, .int 2, .ref q1]) (n := 0) (host := "QueryHarbor") B h hA (c_X5_init l X q8  H.size) hl.1 kc_X5_init (List.mem_of_getElem? (i := 1) (by decide +kernel)) ki_X5 kn_X5_init rfl ⟨by decide +kernel, by decide +kernel, by decide +kernel⟩ rfl rfl rfl ⟨(Nat.le_of_ble_eq_true rfl), (Nat.le_of_ble_eq_true rfl)⟩ (Nat.le_of_ble_eq_true rfl) ⟨(Nat.le_of_ble_eq_true rfl), (Nat.le_of_ble_eq_true rfl)⟩ dX3_init_49 rfl (fun u9 H locs h => ?_)
  have h : HI X A s ((h0, .inr (3, [.ref t, .ref q1, .ref q2, .ref q3, .int 0])) :: (q1, .inl (X.2.1 3, 6, .inr (.inr (.inr (.inr (va_up (va_up (fun _ => none) (0 : Int32).toNatClampNeg (some q4)) (1 : Int32).toNatClampNeg (some q6))))))) :: (q2, .inl (X.2.1 0, 3, .inl (fun _ => 0))) :: (q3, .inl (X.2.1 0, 3, .inl (fun _ => 0))) :: (wX5 X q4 u5 ++ wX5 X q6 u7 ++ wX5 X q8 u9)) H locs := h
  refine i_pc (pc' := 52) (c' := 24) (s' := 270) rfl rfl rfl ?_
  refine i_fillR B (x := 2) 3 1 18 h rfl rfl rfl rfl (by decide) dX3_init_52 (fun H locs h => ?_)
  have h : HI X A s ((h0, .inr (3, [.ref t, .ref q1, .ref q2, .ref q3, .int 0])) :: (q1, .inl (X.2.1 3, 6, .inr (.inr (.inr (.inr (va_up (va_up (va_up (fun _ => none) (0 : Int32).toNatClampNeg (some q4)) (1 : Int32).toNatClampNeg (some q6)) (2 : Int32).toNatClampNeg (some q8))))))) :: (q2, .inl (X.2.1 0, 3, .inl (fun _ => 0))) :: (q3, .inl (X.2.1 0, 3, .inl (fun _ => 0))) :: (wX5 X q4 u5 ++ wX5 X q6 u7 ++ wX5 X q8 u9)) H locs := h
  refine i_pc (pc' := 53) (c' := 24) (s' := 270) rfl rfl rfl ?_
  refine lv_iinc (v := 3) (lv' := [(2, .int 3), (0, .ref h0), (1, .ref t)]) B.hx B.hb dX3_init_53 hl (k := 0) rfl (by decide) (by decide) rfl (fun ls hl => ?_)
  refine lv_goto (tgt := 34) B.hx B.hb dX3_init_56 (by decide) ?_
  refine lv_iload_n B.hx B.hb dX3_init_34 rfl (lv_at hl 0 rfl) ?_
  refine lv_bipush (v := 6) B.hx B.hb dX3_init_35 (by decide) ?_
  refine lv_icmp_ge (tgt := 59) B.hx B.hb dX3_init_37 (by decide) (fun c9 => absurd c9 (by decide)) (fun _ => ?_)
  refine lv_aload_n B.hx B.hb dX3_init_40 rfl (lv_at hl 1 rfl) ?_
  refine i_getf B h 0 (k := 1) (T := TX3) rfl rfl in_X3 (by decide) kf_X3_11 rfl dX3_init_41 ?_
  refine lv_iload_n B.hx B.hb dX3_init_44 rfl (lv_at hl 0 rfl) ?_
  refine i_new (ci := 5) (fs := [.null, .null, .null, .null, .int 0, .int 0, .int 0, .int 0, .int 0, .int 0, .int 0]) B h hA rfl in_X5 tyX5 tyX5_ok (big_at 52 (by decide +kernel) (by decide +kernel)) (big_at 54 (by decide +kernel) (by decide +kernel)) ki_X5 (fun j hj => by rcases (show j = 0 ∨ j = 1 ∨ j = 2 ∨ j = 3 ∨ j = 4 ∨ j = 5 ∨ j = 6 ∨ j = 7 ∨ j = 8 ∨ j = 9 ∨ j = 10 by omega) with rfl | rfl | rfl | rfl | rfl | rfl | rfl | rfl | rfl | rfl | rfl <;> rfl) (Nat.le_of_ble_eq_true rfl) (Nat.le_of_ble_eq_true rfl) dX3_init_45 (fun q10 H h => ?_)
  refine lv_dup B.hx B.hb dX3_init_48 rfl ?_
  refine i_callN (As := []) (rest := [.ref q10, .int 3, .ref q1]) (n := 0) (host := "QueryHarbor") B h hA (c_X5_init l X q10  H.size) hl.1 kc_X5_init (List.mem_of_getElem? (i := 1) (by decide +kernel)) ki_X5 kn_X5_init rfl ⟨by decide +kernel, by decide +kernel, by decide +kernel⟩ rfl rfl rfl ⟨(Nat.le_of_ble_eq_true rfl), (Nat.le_of_ble_eq_true rfl)⟩ (Nat.le_of_ble_eq_true rfl) ⟨(Nat.le_of_ble_eq_true rfl), (Nat.le_of_ble_eq_true rfl)⟩ dX3_init_49 rfl (fun u11 H locs h => ?_)
  have h : HI X A s ((h0, .inr (3, [.ref t, .ref q1, .ref q2, .ref q3, .int 0])) :: (q1, .inl (X.2.1 3, 6, .inr (.inr (.inr (.inr (va_up (va_up (va_up (fun _ => none) (0 : Int32).toNatClampNeg (some q4)) (1 : Int32).toNatClampNeg (some q6)) (2 : Int32).toNatClampNeg (some q8))))))) :: (q2, .inl (X.2.1 0, 3, .inl (fun _ => 0))) :: (q3, .inl (X.2.1 0, 3, .inl (fun _ => 0))) :: (wX5 X q4 u5 ++ wX5 X q6 u7 ++ wX5 X q8 u9 ++ wX5 X q10 u11)) H locs := h
  refine i_pc (pc' := 52) (c' := 31) (s' := 356) rfl rfl rfl ?_
  refine i_fillR B (x := 3) 3 1 25 h rfl rfl rfl rfl (by decide) dX3_init_52 (fun H locs h => ?_)
  have h : HI X A s ((h0, .inr (3, [.ref t, .ref q1, .ref q2, .ref q3, .int 0])) :: (q1, .inl (X.2.1 3, 6, .inr (.inr (.inr (.inr (va_up (va_up (va_up (va_up (fun _ => none) (0 : Int32).toNatClampNeg (some q4)) (1 : Int32).toNatClampNeg (some q6)) (2 : Int32).toNatClampNeg (some q8)) (3 : Int32).toNatClampNeg (some q10))))))) :: (q2, .inl (X.2.1 0, 3, .inl (fun _ => 0))) :: (q3, .inl (X.2.1 0, 3, .inl (fun _ => 0))) :: (wX5 X q4 u5 ++ wX5 X q6 u7 ++ wX5 X q8 u9 ++ wX5 X q10 u11)) H locs := h
  refine i_pc (pc' := 53) (c' := 31) (s' := 356) rfl rfl rfl ?_
  refine lv_iinc (v := 4) (lv' := [(2, .int 4), (0, .ref h0), (1, .ref t)]) B.hx B.hb dX3_init_53 hl (k := 0) rfl (by decide) (by decide) rfl (fun ls hl => ?_)
  refine lv_goto (tgt := 34) B.hx B.hb dX3_init_56 (by decide) ?_
  refine lv_iload_n B.hx B.hb dX3_init_34 rfl (lv_at hl 0 rfl) ?_
  refine lv_bipush (v := 6) B.hx B.hb dX3_init_35 (by decide) ?_
  refine lv_icmp_ge (tgt := 59) B.hx B.hb dX3_init_37 (by decide) (fun c9 => absurd c9 (by decide)) (fun _ => ?_)
  refine lv_aload_n B.hx B.hb dX3_init_40 rfl (lv_at hl 1 rfl) ?_
  refine i_getf B h 0 (k := 1) (T := TX3) rfl rfl in_X3 (by decide) kf_X3_11 rfl dX3_init_41 ?_
  refine lv_iload_n B.hx B.hb dX3_init_44 rfl (lv_at hl 0 rfl) ?_
  refine i_new (ci := 5) (fs := [.null, .null, .null, .null, .int 0, .int 0, .int 0, .int 0, .int 0, .int 0, .int 0]) B h hA rfl in_X5 tyX5 tyX5_ok (big_at 52 (by decide +kernel) (by decide +kernel)) (big_at 54 (by decide +kernel) (by decide +kernel)) ki_X5 (fun j hj => by rcases (show j = 0 ∨ j = 1 ∨ j = 2 ∨ j = 3 ∨ j = 4 ∨ j = 5 ∨ j = 6 ∨ j = 7 ∨ j = 8 ∨ j = 9 ∨ j = 10 by omega) with rfl | rfl | rfl | rfl | rfl | rfl | rfl | rfl | rfl | rfl | rfl <;> rfl) (Nat.le_of_ble_eq_true rfl) (Nat.le_of_ble_eq_true rfl) dX3_init_45 (fun q12 H h => ?_)
  refine lv_dup B.hx B.hb dX3_init_48 rfl ?_
  refine i_callN (As := []) (rest := [.ref q12, .int 4, .ref q1]) (n := 0) (host := "QueryHarbor") B h hA (c_X5_init l X q12  H.size) hl.1 kc_X5_init (List.mem_of_getElem? (i := 1) (by decide +kernel)) ki_X5 kn_X5_init rfl ⟨by decide +kernel, by decide +kernel, by decide +kernel⟩ rfl rfl rfl ⟨(Nat.le_of_ble_eq_true rfl), (Nat.le_of_ble_eq_true rfl)⟩ (Nat.le_of_ble_eq_true rfl) ⟨(Nat.le_of_ble_eq_true rfl), (Nat.le_of_ble_eq_true rfl)⟩ dX3_init_49 rfl (fun u13 H locs h => ?_)
  have h : HI X A s ((h0, .inr (3, [.ref t, .ref q1, .ref q2, .ref q3, .int 0])) :: (q1, .inl (X.2.1 3, 6, .inr (.inr (.inr (.inr (va_up (va_up (va_up (va_up (fun _ => none) (0 : Int32).toNatClampNeg (some q4)) (1 : Int32).toNatClampNeg (some q6)) (2 : Int32).toNatClampNeg (some q8)) (3 : Int32).toNatClampNeg (some q10))))))) :: (q2, .inl (X.2.1 0, 3, .inl (fun _ => 0))) :: (q3, .inl (X.2.1 0, 3, .inl (fun _ => 0))) :: (wX5 X q4 u5 ++ wX5 X q6 u7 ++ wX5 X q8 u9 ++ wX5 X q10 u11 ++ wX5 X q12 u13)) H locs := h
  refine i_pc (pc' := 52) (c' := 38) (s' := 442) rfl rfl rfl ?_
  refine i_fillR B (x := 4) 3 1 32 h rfl rfl rfl rfl (by decide) dX3_init_52 (fun H locs h => ?_)
  have h : HI X A s ((h0, .inr (3, [.ref t, .ref q1, .ref q2, .ref q3, .int 0])) :: (q1, .inl (X.2.1 3, 6, .inr (.inr (.inr (.inr (va_up (va_up (va_up (va_up (va_up (fun _ => none) (0 : Int32).toNatClampNeg (some q4)) (1 : Int32).toNatClampNeg (some q6)) (2 : Int32).toNatClampNeg (some q8)) (3 : Int32).toNatClampNeg (some q10)) (4 : Int32).toNatClampNeg (some q12))))))) :: (q2, .inl (X.2.1 0, 3, .inl (fun _ => 0))) :: (q3, .inl (X.2.1 0, 3, .inl (fun _ => 0))) :: (wX5 X q4 u5 ++ wX5 X q6 u7 ++ wX5 X q8 u9 ++ wX5 X q10 u11 ++ wX5 X q12 u13)) H locs := h
  refine i_pc (pc' := 53) (c' := 38) (s' := 442) rfl rfl rfl ?_
  refine lv_iinc (v := 5) (lv' := [(2, .int 5), (0, .ref h0), (1, .ref t)]) B.hx B.hb dX3_init_53 hl (k := 0) rfl (by decide) (by decide) rfl (fun ls hl => ?_)
  refine lv_goto (tgt := 34) B.hx B.hb dX3_init_56 (by decide) ?_
  refine lv_iload_n B.hx B.hb dX3_init_34 rfl (lv_at hl 0 rfl) ?_
  refine lv_bipush (v := 6) B.hx B.hb dX3_init_35 (by decide) ?_
  refine lv_icmp_ge (tgt := 59) B.hx B.hb dX3_init_37 (by decide) (fun c9 => absurd c9 (by decide)) (fun _ => ?_)
  refine lv_aload_n B.hx B.hb dX3_init_40 rfl (lv_at hl 1 rfl) ?_
  refine i_getf B h 0 (k := 1) (T := TX3) rfl rfl in_X3 (by decide) kf_X3_11 rfl dX3_init_41 ?_
  refine lv_iload_n B.hx B.hb dX3_init_44 rfl (lv_at hl 0 rfl) ?_
  refine i_new (ci := 5) (fs := [.null, .null, .null, .null, .int 0, .int 0, .int 0, .int 0, .int 0, .int 0, .int 0]) B h hA rfl in_X5 tyX5 tyX5_ok (big_at 52 (by decide +kernel) (by decide +kernel)) (big_at 54 (by decide +kernel) (by decide +kernel)) ki_X5 (fun j hj => by rcases (show j = 0 ∨ j = 1 ∨ j = 2 ∨ j = 3 ∨ j = 4 ∨ j = 5 ∨ j = 6 ∨ j = 7 ∨ j = 8 ∨ j = 9 ∨ j = 10 by omega) with rfl | rfl | rfl | rfl | rfl | rfl | rfl | rfl | rfl | rfl | rfl <;> rfl) (Nat.le_of_ble_eq_true rfl) (Nat.le_of_ble_eq_true rfl) dX3_init_45 (fun q14 H h => ?_)
  refine lv_dup B.hx B.hb dX3_init_48 rfl ?_
  refine i_callN (As := []) (rest := [.ref q14, .int 5, .ref q1]) (n := 0) (host := "QueryHarbor") B h hA (c_X5_init l X q14  H.size) hl.1 kc_X5_init (List.mem_of_getElem? (i := 1) (by decide +kernel)) ki_X5 kn_X5_init rfl ⟨by decide +kernel, by decide +kernel, by decide +kernel⟩ rfl rfl rfl ⟨(Nat.le_of_ble_eq_true rfl), (Nat.le_of_ble_eq_true rfl)⟩ (Nat.le_of_ble_eq_true rfl) ⟨(Nat.le_of_ble_eq_true rfl), (Nat.le_of_ble_eq_true rfl)⟩ dX3_init_49 rfl (fun u15 H locs h => ?_)
  have h : HI X A s ((h0, .inr (3, [.ref t, .ref q1, .ref q2, .ref q3, .int 0])) :: (q1, .inl (X.2.1 3, 6, .inr (.inr (.inr (.inr (va_up (va_up (va_up (va_up (va_up (fun _ => none) (0 : Int32).toNatClampNeg (some q4)) (1 : Int32).toNatClampNeg (some q6)) (2 : Int32).toNatClampNeg (some q8)) (3 : Int32).toNatClampNeg (some q10)) (4 : Int32).toNatClampNeg (some q12))))))) :: (q2, .inl (X.2.1 0, 3, .inl (fun _ => 0))) :: (q3, .inl (X.2.1 0, 3, .inl (fun _ => 0))) :: (wX5 X q4 u5 ++ wX5 X q6 u7 ++ wX5 X q8 u9 ++ wX5 X q10 u11 ++ wX5 X q12 u13 ++ wX5 X q14 u15)) H locs := h
  refine i_pc (pc' := 52) (c' := 45) (s' := 528) rfl rfl rfl ?_
  refine i_fillR B (x := 5) 3 1 39 h rfl rfl rfl rfl (by decide) dX3_init_52 (fun H locs h => ?_)
  have h : HI X A s ((h0, .inr (3, [.ref t, .ref q1, .ref q2, .ref q3, .int 0])) :: (q1, .inl (X.2.1 3, 6, .inr (.inr (.inr (.inr (va_up (va_up (va_up (va_up (va_up (va_up (fun _ => none) (0 : Int32).toNatClampNeg (some q4)) (1 : Int32).toNatClampNeg (some q6)) (2 : Int32).toNatClampNeg (some q8)) (3 : Int32).toNatClampNeg (some q10)) (4 : Int32).toNatClampNeg (some q12)) (5 : Int32).toNatClampNeg (some q14))))))) :: (q2, .inl (X.2.1 0, 3, .inl (fun _ => 0))) :: (q3, .inl (X.2.1 0, 3, .inl (fun _ => 0))) :: (wX5 X q4 u5 ++ wX5 X q6 u7 ++ wX5 X q8 u9 ++ wX5 X q10 u11 ++ wX5 X q12 u13 ++ wX5 X q14 u15)) H locs := h
  refine i_pc (pc' := 53) (c' := 45) (s' := 528) rfl rfl rfl ?_
  refine lv_iinc (v := 6) (lv' := [(2, .int 6), (0, .ref h0), (1, .ref t)]) B.hx B.hb dX3_init_53 hl (k := 0) rfl (by decide) (by decide) rfl (fun ls hl => ?_)
  refine lv_goto (tgt := 34) B.hx B.hb dX3_init_56 (by decide) ?_
  refine lv_iload_n B.hx B.hb dX3_init_34 rfl (lv_at hl 0 rfl) ?_
  refine lv_bipush (v := 6) B.hx B.hb dX3_init_35 (by decide) ?_
  refine lv_icmp_ge (tgt := 59) B.hx B.hb dX3_init_37 (by decide) (fun _ => ?_) (fun c9 => absurd (by decide) c9)
  refine lv_iconst (v := 0) B.hx B.hb dX3_init_59 (by decide) ?_
  refine lv_istore_n (lv' := [(2, .int 0), (0, .ref h0), (1, .ref t)]) B.hx B.hb dX3_init_60 rfl hl (by decide) rfl (fun ls hl => ?_)
  refine lv_iload_n B.hx B.hb dX3_init_61 rfl (lv_at hl 0 rfl) ?_
  refine lv_iconst (v := 3) B.hx B.hb dX3_init_62 (by decide) ?_
  refine lv_icmp_ge (tgt := 80) B.hx B.hb dX3_init_63 (by decide) (fun c9 => absurd c9 (by decide)) (fun _ => ?_)
  refine lv_aload_n B.hx B.hb dX3_init_66 rfl (lv_at hl 1 rfl) ?_
  refine i_getf B h 0 (k := 3) (T := TX3) rfl rfl in_X3 (by decide) kf_X3_21 rfl dX3_init_67 ?_
  refine lv_iload_n B.hx B.hb dX3_init_70 rfl (lv_at hl 0 rfl) ?_
  refine lv_bipush (v := 60) B.hx B.hb dX3_init_71 (by decide) ?_
  refine i_fill B (x := 0) (v := 60) 3 h rfl (by decide) dX3_init_73 (fun H locs h => ?_)
  have h : HI X A s ((h0, .inr (3, [.ref t, .ref q1, .ref q2, .ref q3, .int 0])) :: (q1, .inl (X.2.1 3, 6, .inr (.inr (.inr (.inr (va_up (va_up (va_up (va_up (va_up (va_up (fun _ => none) (0 : Int32).toNatClampNeg (some q4)) (1 : Int32).toNatClampNeg (some q6)) (2 : Int32).toNatClampNeg (some q8)) (3 : Int32).toNatClampNeg (some q10)) (4 : Int32).toNatClampNeg (some q12)) (5 : Int32).toNatClampNeg (some q14))))))) :: (q2, .inl (X.2.1 0, 3, .inl (fun _ => 0))) :: (q3, .inl (X.2.1 0, 3, .inl (upd (fun _ => 0) (0 : Int32).toNatClampNeg 60))) :: (wX5 X q4 u5 ++ wX5 X q6 u7 ++ wX5 X q8 u9 ++ wX5 X q10 u11 ++ wX5 X q12 u13 ++ wX5 X q14 u15)) H locs := h
  refine lv_iinc (v := 1) (lv' := [(2, .int 1), (0, .ref h0), (1, .ref t)]) B.hx B.hb dX3_init_74 hl (k := 0) rfl (by decide) (by decide) rfl (fun ls hl => ?_)
  refine lv_goto (tgt := 61) B.hx B.hb dX3_init_77 (by decide) ?_
  refine lv_iload_n B.hx B.hb dX3_init_61 rfl (lv_at hl 0 rfl) ?_
  refine lv_iconst (v := 3) B.hx B.hb dX3_init_62 (by decide) ?_
  refine lv_icmp_ge (tgt := 80) B.hx B.hb dX3_init_63 (by decide) (fun c9 => absurd c9 (by decide)) (fun _ => ?_)
  refine lv_aload_n B.hx B.hb dX3_init_66 rfl (lv_at hl 1 rfl) ?_
  refine i_getf B h 0 (k := 3) (T := TX3) rfl rfl in_X3 (by decide) kf_X3_21 rfl dX3_init_67 ?_
  refine lv_iload_n B.hx B.hb dX3_init_70 rfl (lv_at hl 0 rfl) ?_
  refine lv_bipush (v := 60) B.hx B.hb dX3_init_71 (by decide) ?_
  refine i_fill B (x := 1) (v := 60) 3 h rfl (by decide) dX3_init_73 (fun H locs h => ?_)
  have h : HI X A s ((h0, .inr (3, [.ref t, .ref q1, .ref q2, .ref q3, .int 0])) :: (q1, .inl (X.2.1 3, 6, .inr (.inr (.inr (.inr (va_up (va_up (va_up (va_up (va_up (va_up (fun _ => none) (0 : Int32).toNatClampNeg (some q4)) (1 : Int32).toNatClampNeg (some q6)) (2 : Int32).toNatClampNeg (some q8)) (3 : Int32).toNatClampNeg (some q10)) (4 : Int32).toNatClampNeg (some q12)) (5 : Int32).toNatClampNeg (some q14))))))) :: (q2, .inl (X.2.1 0, 3, .inl (fun _ => 0))) :: (q3, .inl (X.2.1 0, 3, .inl (upd (upd (fun _ => 0) (0 : Int32).toNatClampNeg 60) (1 : Int32).toNatClampNeg 60))) :: (wX5 X q4 u5 ++ wX5 X q6 u7 ++ wX5 X q8 u9 ++ wX5 X q10 u11 ++ wX5 X q12 u13 ++ wX5 X q14 u15)) H locs := h
  refine lv_iinc (v := 2) (lv' := [(2, .int 2), (0, .ref h0), (1, .ref t)]) B.hx B.hb dX3_init_74 hl (k := 0) rfl (by decide) (by decide) rfl (fun ls hl => ?_)
  refine lv_goto (tgt := 61) B.hx B.hb dX3_init_77 (by decide) ?_
  refine lv_iload_n B.hx B.hb dX3_init_61 rfl (lv_at hl 0 rfl) ?_
  refine lv_iconst (v := 3) B.hx B.hb dX3_init_62 (by decide) ?_
  refine lv_icmp_ge (tgt := 80) B.hx B.hb dX3_init_63 (by decide) (fun c9 => absurd c9 (by decide)) (fun _ => ?_)
  refine lv_aload_n B.hx B.hb dX3_init_66 rfl (lv_at hl 1 rfl) ?_
  refine i_getf B h 0 (k := 3) (T := TX3) rfl rfl in_X3 (by decide) kf_X3_21 rfl dX3_init_67 ?_
  refine lv_iload_n B.hx B.hb dX3_init_70 rfl (lv_at hl 0 rfl) ?_
  refine lv_bipush (v := 60) B.hx B.hb dX3_init_71 (by decide) ?_
  refine i_fill B (x := 2) (v := 60) 3 h rfl (by decide) dX3_init_73 (fun H locs h => ?_)
  have h : HI X A s ((h0, .inr (3, [.ref t, .ref q1, .ref q2, .ref q3, .int 0])) :: (q1, .inl (X.2.1 3, 6, .inr (.inr (.inr (.inr (va_up (va_up (va_up (va_up (va_up (va_up (fun _ => none) (0 : Int32).toNatClampNeg (some q4)) (1 : Int32).toNatClampNeg (some q6)) (2 : Int32).toNatClampNeg (some q8)) (3 : Int32).toNatClampNeg (some q10)) (4 : Int32).toNatClampNeg (some q12)) (5 : Int32).toNatClampNeg (some q14))))))) :: (q2, .inl (X.2.1 0, 3, .inl (fun _ => 0))) :: (q3, .inl (X.2.1 0, 3, .inl (upd (upd (upd (fun _ => 0) (0 : Int32).toNatClampNeg 60) (1 : Int32).toNatClampNeg 60) (2 : Int32).toNatClampNeg 60))) :: (wX5 X q4 u5 ++ wX5 X q6 u7 ++ wX5 X q8 u9 ++ wX5 X q10 u11 ++ wX5 X q12 u13 ++ wX5 X q14 u15)) H locs := h
  refine lv_iinc (v := 3) (lv' := [(2, .int 3), (0, .ref h0), (1, .ref t)]) B.hx B.hb dX3_init_74 hl (k := 0) rfl (by decide) (by decide) rfl (fun ls hl => ?_)
  refine lv_goto (tgt := 61) B.hx B.hb dX3_init_77 (by decide) ?_
  refine lv_iload_n B.hx B.hb dX3_init_61 rfl (lv_at hl 0 rfl) ?_
  refine lv_iconst (v := 3) B.hx B.hb dX3_init_62 (by decide) ?_
  refine lv_icmp_ge (tgt := 80) B.hx B.hb dX3_init_63 (by decide) (fun _ => ?_) (fun c9 => absurd (by decide) c9)
  have h := HI.nrmq (a := q1) 1 (fun j => some (if j = 0 then q4 else if j = 1 then q6 else if j = 2 then q8 else if j = 3 then q10 else if j = 4 then q12 else q14)) h rfl (fun j hj => by rcases (show j = 0 ∨ j = 1 ∨ j = 2 ∨ j = 3 ∨ j = 4 ∨ j = 5 by omega) with rfl | rfl | rfl | rfl | rfl | rfl <;> rfl)
  have h : HI X A s ((h0, .inr (3, [.ref t, .ref q1, .ref q2, .ref q3, .int 0])) :: (q1, .inl (X.2.1 3, 6, .inr (.inr (.inr (.inr (fun j => some (if j = 0 then q4 else if j = 1 then q6 else if j = 2 then q8 else if j = 3 then q10 else if j = 4 then q12 else q14))))))) :: (q2, .inl (X.2.1 0, 3, .inl (fun _ => 0))) :: (q3, .inl (X.2.1 0, 3, .inl (upd (upd (upd (fun _ => 0) (0 : Int32).toNatClampNeg 60) (1 : Int32).toNatClampNeg 60) (2 : Int32).toNatClampNeg 60))) :: (wX5 X q4 u5 ++ wX5 X q6 u7 ++ wX5 X q8 u9 ++ wX5 X q10 u11 ++ wX5 X q12 u13 ++ wX5 X q14 u15)) H locs := h
  have h := HI.nrm (a := q3) 3 (fun _ => 60) h rfl (by decide)
  have h : HI X A s ((h0, .inr (3, [.ref t, .ref q1, .ref q2, .ref q3, .int 0])) :: (q1, .inl (X.2.1 3, 6, .inr (.inr (.inr (.inr (fun j => some (if j = 0 then q4 else if j = 1 then q6 else if j = 2 then q8 else if j = 3 then q10 else if j = 4 then q12 else q14))))))) :: (q2, .inl (X.2.1 0, 3, .inl (fun _ => 0))) :: (q3, .inl (X.2.1 0, 3, .inl (fun _ => 60))) :: (wX5 X q4 u5 ++ wX5 X q6 u7 ++ wX5 X q8 u9 ++ wX5 X q10 u11 ++ wX5 X q12 u13 ++ wX5 X q14 u15)) H locs := h
  exact i_vret B hr hlk h (fun i => (if i < 11 then (if i < 3 then (if i < 2 then q1 else q2) else (if i < 4 then q3 else (if i = 4 then q4 else u5 (i - 4)))) else (if i < 25 then (if i < 18 then (if i = 11 then q6 else u7 (i - 11)) else (if i = 18 then q8 else u9 (i - 18))) else (if i < 32 then (if i = 25 then q10 else u11 (i - 25)) else (if i < 39 then (if i = 32 then q12 else u13 (i - 32)) else (if i = 39 then q14 else u15 (i - 39))))))) rfl dX3_init_80
abbrev rmi_X8 : Room := { frames := 1, cells := 8, slots := 39, locals := 22 }
set_option maxHeartbeats 4000000 in
set_option maxRecDepth 100000 in
theorem c_X8_init (l : Launch) (X : XT) (h0 t ca : Nat) (sz : Nat) : Met l yX8_init (wbig yX8_init cX8_init 4 none) rmi_X8 (va_Pc [.ref h0, .ref t, .ref ca] (IP X [(h0, .inr (8, [.null, .null, .null, .null, .null, .null, .null, .null, .null, .null]))] sz)) (QN X [(h0, .inr (8, [.null, .null, .null, .null, .null, .null, .null, .null, .null, .null]))] sz (wX8 X t ca h0)) 8 39 (va_A [(h0, .inr (8, [.null, .null, .null, .null, .null, .null, .null, .null, .null, .null]))] sz) := by
  refine init_go (Bp := wX8 X t ca h0) (by decide +kernel) (Nat.le_of_ble_eq_true rfl) ?_
  intro p e s m args below meth c A hA B hr hlk hin h ls hl
  have hl : lv_has ls 4 [(0, .ref h0), (1, .ref t), (2, .ref ca)] := hl
  refine lv_aload_n B.hx B.hb dX8_init_0 rfl (lv_at hl 0 rfl) ?_
  refine i_obj B hl.1 (big_at 143 (by decide +kernel) (by decide +kernel)) (Nat.le_of_ble_eq_true rfl) (Nat.le_of_ble_eq_true rfl) dX8_init_1 ?_
  refine lv_aload_n B.hx B.hb dX8_init_4 rfl (lv_at hl 0 rfl) ?_
  refine lv_iconst (v := 3) B.hx B.hb dX8_init_5 (by decide) ?_
  refine i_newi B h hA 3 (by decide +kernel) (by decide +kernel) (Nat.le_of_ble_eq_true rfl) (Nat.le_of_ble_eq_true rfl) (Nat.le_of_ble_eq_true rfl) dX8_init_6 (fun q1 H h => ?_)
  have h : HI X A s ([(h0, .inr (8, [.null, .null, .null, .null, .null, .null, .null, .null, .null, .null])), (q1, .inl (X.2.1 0, 3, .inl (fun _ => 0)))]) H [] := h
  refine i_putF (ty := .array (.int)) (k := 2) (T := TX8) (v := .ref q1) B hin h rfl in_X8 tyX8 tyX8_ok nmX8 (by decide) kf_X8_9 rfl rfl (by decide +kernel) rfl rfl (Nat.le_of_ble_eq_true rfl) dX8_init_8 (fun H locs h => ?_)
  have h : HI X A s ([(h0, .inr (8, [.null, .null, .ref q1, .null, .null, .null, .null, .null, .null, .null])), (q1, .inl (X.2.1 0, 3, .inl (fun _ => 0)))]) H locs := h
  refine i_pc (pc' := 11) (c' := 1) (s' := 3) rfl rfl rfl ?_
  refine lv_aload_n B.hx B.hb dX8_init_11 rfl (lv_at hl 0 rfl) ?_
  refine lv_iconst (v := 3) B.hx B.hb dX8_init_12 (by decide) ?_
  refine i_newi B h hA 3 (by decide +kernel) (by decide +kernel) (Nat.le_of_ble_eq_true rfl) (Nat.le_of_ble_eq_true rfl) (Nat.le_of_ble_eq_true rfl) dX8_init_13 (fun q2 H h => ?_)
  have h : HI X A s ([(h0, .inr (8, [.null, .null, .ref q1, .null, .null, .null, .null, .null, .null, .null])), (q1, .inl (X.2.1 0, 3, .inl (fun _ => 0))), (q2, .inl (X.2.1 0, 3, .inl (fun _ => 0)))]) H locs := h
  refine i_putF (ty := .array (.int)) (k := 3) (T := TX8) (v := .ref q2) B hin h rfl in_X8 tyX8 tyX8_ok nmX8 (by decide) kf_X8_15 rfl rfl (by decide +kernel) rfl rfl (Nat.le_of_ble_eq_true rfl) dX8_init_15 (fun H locs h => ?_)
  have h : HI X A s ([(h0, .inr (8, [.null, .null, .ref q1, .ref q2, .null, .null, .null, .null, .null, .null])), (q1, .inl (X.2.1 0, 3, .inl (fun _ => 0))), (q2, .inl (X.2.1 0, 3, .inl (fun _ => 0)))]) H locs := h
  refine i_pc (pc' := 18) (c' := 2) (s' := 6) rfl rfl rfl ?_
  refine lv_aload_n B.hx B.hb dX8_init_18 rfl (lv_at hl 0 rfl) ?_
  refine lv_iconst (v := 3) B.hx B.hb dX8_init_19 (by decide) ?_
  refine i_newi B h hA 3 (by decide +kernel) (by decide +kernel) (Nat.le_of_ble_eq_true rfl) (Nat.le_of_ble_eq_true rfl) (Nat.le_of_ble_eq_true rfl) dX8_init_20 (fun q3 H h => ?_)
  have h : HI X A s ([(h0, .inr (8, [.null, .null, .ref q1, .ref q2, .null, .null, .null, .null, .null, .null])), (q1, .inl (X.2.1 0, 3, .inl (fun _ => 0))), (q2, .inl (X.2.1 0, 3, .inl (fun _ => 0))), (q3, .inl (X.2.1 0, 3, .inl (fun _ => 0)))]) H locs := h
  refine i_putF (ty := .array (.int)) (k := 4) (T := TX8) (v := .ref q3) B hin h rfl in_X8 tyX8 tyX8_ok nmX8 (by decide) kf_X8_18 rfl rfl (by decide +kernel) rfl rfl (Nat.le_of_ble_eq_true rfl) dX8_init_22 (fun H locs h => ?_)
  have h : HI X A s ([(h0, .inr (8, [.null, .null, .ref q1, .ref q2, .ref q3, .null, .null, .null, .null, .null])), (q1, .inl (X.2.1 0, 3, .inl (fun _ => 0))), (q2, .inl (X.2.1 0, 3, .inl (fun _ => 0))), (q3, .inl (X.2.1 0, 3, .inl (fun _ => 0)))]) H locs := h
  refine i_pc (pc' := 25) (c' := 3) (s' := 9) rfl rfl rfl ?_
  refine lv_aload_n B.hx B.hb dX8_init_25 rfl (lv_at hl 0 rfl) ?_
  refine lv_iconst (v := 3) B.hx B.hb dX8_init_26 (by decide) ?_
  refine i_newi B h hA 3 (by decide +kernel) (by decide +kernel) (Nat.le_of_ble_eq_true rfl) (Nat.le_of_ble_eq_true rfl) (Nat.le_of_ble_eq_true rfl) dX8_init_27 (fun q4 H h => ?_)
  have h : HI X A s ([(h0, .inr (8, [.null, .null, .ref q1, .ref q2, .ref q3, .null, .null, .null, .null, .null])), (q1, .inl (X.2.1 0, 3, .inl (fun _ => 0))), (q2, .inl (X.2.1 0, 3, .inl (fun _ => 0))), (q3, .inl (X.2.1 0, 3, .inl (fun _ => 0))), (q4, .inl (X.2.1 0, 3, .inl (fun _ => 0)))]) H locs := h
  refine i_putF (ty := .array (.int)) (k := 5) (T := TX8) (v := .ref q4) B hin h rfl in_X8 tyX8 tyX8_ok nmX8 (by decide) kf_X8_21 rfl rfl (by decide +kernel) rfl rfl (Nat.le_of_ble_eq_true rfl) dX8_init_29 (fun H locs h => ?_)
  have h : HI X A s ([(h0, .inr (8, [.null, .null, .ref q1, .ref q2, .ref q3, .ref q4, .null, .null, .null, .null])), (q1, .inl (X.2.1 0, 3, .inl (fun _ => 0))), (q2, .inl (X.2.1 0, 3, .inl (fun _ => 0))), (q3, .inl (X.2.1 0, 3, .inl (fun _ => 0))), (q4, .inl (X.2.1 0, 3, .inl (fun _ => 0)))]) H locs := h
  refine i_pc (pc' := 32) (c' := 4) (s' := 12) rfl rfl rfl ?_
  refine lv_aload_n B.hx B.hb dX8_init_32 rfl (lv_at hl 0 rfl) ?_
  refine lv_iconst (v := 3) B.hx B.hb dX8_init_33 (by decide) ?_
  refine i_newz B h hA 3 (by decide +kernel) (by decide +kernel) (Nat.le_of_ble_eq_true rfl) (Nat.le_of_ble_eq_true rfl) (Nat.le_of_ble_eq_true rfl) dX8_init_34 (fun q5 H h => ?_)
  have h : HI X A s ([(h0, .inr (8, [.null, .null, .ref q1, .ref q2, .ref q3, .ref q4, .null, .null, .null, .null])), (q1, .inl (X.2.1 0, 3, .inl (fun _ => 0))), (q2, .inl (X.2.1 0, 3, .inl (fun _ => 0))), (q3, .inl (X.2.1 0, 3, .inl (fun _ => 0))), (q4, .inl (X.2.1 0, 3, .inl (fun _ => 0))), (q5, .inl (X.2.1 1, 3, .inl (fun _ => 0)))]) H locs := h
  refine i_putF (ty := .array (.boolean)) (k := 6) (T := TX8) (v := .ref q5) B hin h rfl in_X8 tyX8 tyX8_ok nmX8 (by decide) kf_X8_24 rfl rfl (by decide +kernel) rfl rfl (Nat.le_of_ble_eq_true rfl) dX8_init_36 (fun H locs h => ?_)
  have h : HI X A s ([(h0, .inr (8, [.null, .null, .ref q1, .ref q2, .ref q3, .ref q4, .ref q5, .null, .null, .null])), (q1, .inl (X.2.1 0, 3, .inl (fun _ => 0))), (q2, .inl (X.2.1 0, 3, .inl (fun _ => 0))), (q3, .inl (X.2.1 0, 3, .inl (fun _ => 0))), (q4, .inl (X.2.1 0, 3, .inl (fun _ => 0))), (q5, .inl (X.2.1 1, 3, .inl (fun _ => 0)))]) H locs := h
  refine i_pc (pc' := 39) (c' := 5) (s' := 15) rfl rfl rfl ?_
  refine lv_aload_n B.hx B.hb dX8_init_39 rfl (lv_at hl 0 rfl) ?_
  refine lv_bipush (v := 18) B.hx B.hb dX8_init_40 (by decide) ?_
  refine i_newz B h hA 18 (by decide +kernel) (by decide +kernel) (Nat.le_of_ble_eq_true rfl) (Nat.le_of_ble_eq_true rfl) (Nat.le_of_ble_eq_true rfl) dX8_init_42 (fun q6 H h => ?_)
  have h : HI X A s ([(h0, .inr (8, [.null, .null, .ref q1, .ref q2, .ref q3, .ref q4, .ref q5, .null, .null, .null])), (q1, .inl (X.2.1 0, 3, .inl (fun _ => 0))), (q2, .inl (X.2.1 0, 3, .inl (fun _ => 0))), (q3, .inl (X.2.1 0, 3, .inl (fun _ => 0))), (q4, .inl (X.2.1 0, 3, .inl (fun _ => 0))), (q5, .inl (X.2.1 1, 3, .inl (fun _ => 0))), (q6, .inl (X.2.1 1, 18, .inl (fun _ => 0)))]) H locs := h
  refine i_putF (ty := .array (.boolean)) (k := 7) (T := TX8) (v := .ref q6) B hin h rfl in_X8 tyX8 tyX8_ok nmX8 (by decide) kf_X8_28 rfl rfl (by decide +kernel) rfl rfl (Nat.le_of_ble_eq_true rfl) dX8_init_44 (fun H locs h => ?_)
  have h : HI X A s ([(h0, .inr (8, [.null, .null, .ref q1, .ref q2, .ref q3, .ref q4, .ref q5, .ref q6, .null, .null])), (q1, .inl (X.2.1 0, 3, .inl (fun _ => 0))), (q2, .inl (X.2.1 0, 3, .inl (fun _ => 0))), (q3, .inl (X.2.1 0, 3, .inl (fun _ => 0))), (q4, .inl (X.2.1 0, 3, .inl (fun _ => 0))), (q5, .inl (X.2.1 1, 3, .inl (fun _ => 0))), (q6, .inl (X.2.1 1, 18, .inl (fun _ => 0)))]) H locs := h
  refine i_pc (pc' := 47) (c' := 6) (s' := 33) rfl rfl rfl ?_
  refine lv_aload_n B.hx B.hb dX8_init_47 rfl (lv_at hl 0 rfl) ?_
  refine lv_iconst (v := 3) B.hx B.hb dX8_init_48 (by decide) ?_
  refine i_newi B h hA 3 (by decide +kernel) (by decide +kernel) (Nat.le_of_ble_eq_true rfl) (Nat.le_of_ble_eq_true rfl) (Nat.le_of_ble_eq_true rfl) dX8_init_49 (fun q7 H h => ?_)
  have h : HI X A s ([(h0, .inr (8, [.null, .null, .ref q1, .ref q2, .ref q3, .ref q4, .ref q5, .ref q6, .null, .null])), (q1, .inl (X.2.1 0, 3, .inl (fun _ => 0))), (q2, .inl (X.2.1 0, 3, .inl (fun _ => 0))), (q3, .inl (X.2.1 0, 3, .inl (fun _ => 0))), (q4, .inl (X.2.1 0, 3, .inl (fun _ => 0))), (q5, .inl (X.2.1 1, 3, .inl (fun _ => 0))), (q6, .inl (X.2.1 1, 18, .inl (fun _ => 0))), (q7, .inl (X.2.1 0, 3, .inl (fun _ => 0)))]) H locs := h
  refine i_putF (ty := .array (.int)) (k := 8) (T := TX8) (v := .ref q7) B hin h rfl in_X8 tyX8 tyX8_ok nmX8 (by decide) kf_X8_31 rfl rfl (by decide +kernel) rfl rfl (Nat.le_of_ble_eq_true rfl) dX8_init_51 (fun H locs h => ?_)
  have h : HI X A s ([(h0, .inr (8, [.null, .null, .ref q1, .ref q2, .ref q3, .ref q4, .ref q5, .ref q6, .ref q7, .null])), (q1, .inl (X.2.1 0, 3, .inl (fun _ => 0))), (q2, .inl (X.2.1 0, 3, .inl (fun _ => 0))), (q3, .inl (X.2.1 0, 3, .inl (fun _ => 0))), (q4, .inl (X.2.1 0, 3, .inl (fun _ => 0))), (q5, .inl (X.2.1 1, 3, .inl (fun _ => 0))), (q6, .inl (X.2.1 1, 18, .inl (fun _ => 0))), (q7, .inl (X.2.1 0, 3, .inl (fun _ => 0)))]) H locs := h
  refine i_pc (pc' := 54) (c' := 7) (s' := 36) rfl rfl rfl ?_
  refine lv_aload_n B.hx B.hb dX8_init_54 rfl (lv_at hl 0 rfl) ?_
  refine lv_iconst (v := 3) B.hx B.hb dX8_init_55 (by decide) ?_
  refine i_newi B h hA 3 (by decide +kernel) (by decide +kernel) (Nat.le_of_ble_eq_true rfl) (Nat.le_of_ble_eq_true rfl) (Nat.le_of_ble_eq_true rfl) dX8_init_56 (fun q8 H h => ?_)
  have h : HI X A s ([(h0, .inr (8, [.null, .null, .ref q1, .ref q2, .ref q3, .ref q4, .ref q5, .ref q6, .ref q7, .null])), (q1, .inl (X.2.1 0, 3, .inl (fun _ => 0))), (q2, .inl (X.2.1 0, 3, .inl (fun _ => 0))), (q3, .inl (X.2.1 0, 3, .inl (fun _ => 0))), (q4, .inl (X.2.1 0, 3, .inl (fun _ => 0))), (q5, .inl (X.2.1 1, 3, .inl (fun _ => 0))), (q6, .inl (X.2.1 1, 18, .inl (fun _ => 0))), (q7, .inl (X.2.1 0, 3, .inl (fun _ => 0))), (q8, .inl (X.2.1 0, 3, .inl (fun _ => 0)))]) H locs := h
  refine i_putF (ty := .array (.int)) (k := 9) (T := TX8) (v := .ref q8) B hin h rfl in_X8 tyX8 tyX8_ok nmX8 (by decide) kf_X8_34 rfl rfl (by decide +kernel) rfl rfl (Nat.le_of_ble_eq_true rfl) dX8_init_58 (fun H locs h => ?_)
  have h : HI X A s ([(h0, .inr (8, [.null, .null, .ref q1, .ref q2, .ref q3, .ref q4, .ref q5, .ref q6, .ref q7, .ref q8])), (q1, .inl (X.2.1 0, 3, .inl (fun _ => 0))), (q2, .inl (X.2.1 0, 3, .inl (fun _ => 0))), (q3, .inl (X.2.1 0, 3, .inl (fun _ => 0))), (q4, .inl (X.2.1 0, 3, .inl (fun _ => 0))), (q5, .inl (X.2.1 1, 3, .inl (fun _ => 0))), (q6, .inl (X.2.1 1, 18, .inl (fun _ => 0))), (q7, .inl (X.2.1 0, 3, .inl (fun _ => 0))), (q8, .inl (X.2.1 0, 3, .inl (fun _ => 0)))]) H locs := h
  refine i_pc (pc' := 61) (c' := 8) (s' := 39) rfl rfl rfl ?_
  refine lv_aload_n B.hx B.hb dX8_init_61 rfl (lv_at hl 0 rfl) ?_
  refine lv_aload_n B.hx B.hb dX8_init_62 rfl (lv_at hl 1 rfl) ?_
  refine i_putF (ty := .object "QueryHarbor$Time") (k := 0) (T := TX8) (v := .ref t) B hin h rfl in_X8 tyX8 tyX8_ok nmX8 (by decide) kf_X8_37 rfl rfl (by decide +kernel) rfl rfl (Nat.le_of_ble_eq_true rfl) dX8_init_63 (fun H locs h => ?_)
  have h : HI X A s ([(h0, .inr (8, [.ref t, .null, .ref q1, .ref q2, .ref q3, .ref q4, .ref q5, .ref q6, .ref q7, .ref q8])), (q1, .inl (X.2.1 0, 3, .inl (fun _ => 0))), (q2, .inl (X.2.1 0, 3, .inl (fun _ => 0))), (q3, .inl (X.2.1 0, 3, .inl (fun _ => 0))), (q4, .inl (X.2.1 0, 3, .inl (fun _ => 0))), (q5, .inl (X.2.1 1, 3, .inl (fun _ => 0))), (q6, .inl (X.2.1 1, 18, .inl (fun _ => 0))), (q7, .inl (X.2.1 0, 3, .inl (fun _ => 0))), (q8, .inl (X.2.1 0, 3, .inl (fun _ => 0)))]) H locs := h
  refine i_pc (pc' := 66) (c' := 8) (s' := 39) rfl rfl rfl ?_
  refine lv_aload_n B.hx B.hb dX8_init_66 rfl (lv_at hl 0 rfl) ?_
  refine lv_aload_n B.hx B.hb dX8_init_67 rfl (lv_at hl 2 rfl) ?_
  refine i_putF (ty := .object "QueryHarbor$Cache") (k := 1) (T := TX8) (v := .ref ca) B hin h rfl in_X8 tyX8 tyX8_ok nmX8 (by decide) kf_X8_41 rfl rfl (by decide +kernel) rfl rfl (Nat.le_of_ble_eq_true rfl) dX8_init_68 (fun H locs h => ?_)
  have h : HI X A s ([(h0, .inr (8, [.ref t, .ref ca, .ref q1, .ref q2, .ref q3, .ref q4, .ref q5, .ref q6, .ref q7, .ref q8])), (q1, .inl (X.2.1 0, 3, .inl (fun _ => 0))), (q2, .inl (X.2.1 0, 3, .inl (fun _ => 0))), (q3, .inl (X.2.1 0, 3, .inl (fun _ => 0))), (q4, .inl (X.2.1 0, 3, .inl (fun _ => 0))), (q5, .inl (X.2.1 1, 3, .inl (fun _ => 0))), (q6, .inl (X.2.1 1, 18, .inl (fun _ => 0))), (q7, .inl (X.2.1 0, 3, .inl (fun _ => 0))), (q8, .inl (X.2.1 0, 3, .inl (fun _ => 0)))]) H locs := h
  refine i_pc (pc' := 71) (c' := 8) (s' := 39) rfl rfl rfl ?_
  refine lv_iconst (v := 0) B.hx B.hb dX8_init_71 (by decide) ?_
  refine lv_istore_n (lv' := [(3, .int 0), (0, .ref h0), (1, .ref t), (2, .ref ca)]) B.hx B.hb dX8_init_72 rfl hl (by decide) rfl (fun ls hl => ?_)
  refine lv_iload_n B.hx B.hb dX8_init_73 rfl (lv_at hl 0 rfl) ?_
  refine lv_iconst (v := 3) B.hx B.hb dX8_init_74 (by decide) ?_
  refine lv_icmp_ge (tgt := 107) B.hx B.hb dX8_init_75 (by decide) (fun c9 => absurd c9 (by decide)) (fun _ => ?_)
  refine lv_aload_n B.hx B.hb dX8_init_78 rfl (lv_at hl 1 rfl) ?_
  refine i_getf B h 0 (k := 2) (T := TX8) rfl rfl in_X8 (by decide) kf_X8_9 rfl dX8_init_79 ?_
  refine lv_iload_n B.hx B.hb dX8_init_82 rfl (lv_at hl 0 rfl) ?_
  refine lv_iconst (v := 1) B.hx B.hb dX8_init_83 (by decide) ?_
  refine i_fill B (x := 0) (v := 1) 1 h rfl (by decide) dX8_init_84 (fun H locs h => ?_)
  have h : HI X A s ([(h0, .inr (8, [.ref t, .ref ca, .ref q1, .ref q2, .ref q3, .ref q4, .ref q5, .ref q6, .ref q7, .ref q8])), (q1, .inl (X.2.1 0, 3, .inl (upd (fun _ => 0) (0 : Int32).toNatClampNeg 1))), (q2, .inl (X.2.1 0, 3, .inl (fun _ => 0))), (q3, .inl (X.2.1 0, 3, .inl (fun _ => 0))), (q4, .inl (X.2.1 0, 3, .inl (fun _ => 0))), (q5, .inl (X.2.1 1, 3, .inl (fun _ => 0))), (q6, .inl (X.2.1 1, 18, .inl (fun _ => 0))), (q7, .inl (X.2.1 0, 3, .inl (fun _ => 0))), (q8, .inl (X.2.1 0, 3, .inl (fun _ => 0)))]) H locs := h
  refine lv_aload_n B.hx B.hb dX8_init_85 rfl (lv_at hl 1 rfl) ?_
  refine i_getf B h 0 (k := 3) (T := TX8) rfl rfl in_X8 (by decide) kf_X8_15 rfl dX8_init_86 ?_
  refine lv_iload_n B.hx B.hb dX8_init_89 rfl (lv_at hl 0 rfl) ?_
  refine lv_bipush (v := 20) B.hx B.hb dX8_init_90 (by decide) ?_
  refine i_fill B (x := 0) (v := 20) 2 h rfl (by decide) dX8_init_92 (fun H locs h => ?_)
  have h : HI X A s ([(h0, .inr (8, [.ref t, .ref ca, .ref q1, .ref q2, .ref q3, .ref q4, .ref q5, .ref q6, .ref q7, .ref q8])), (q1, .inl (X.2.1 0, 3, .inl (upd (fun _ => 0) (0 : Int32).toNatClampNeg 1))), (q2, .inl (X.2.1 0, 3, .inl (upd (fun _ => 0) (0 : Int32).toNatClampNeg 20))), (q3, .inl (X.2.1 0, 3, .inl (fun _ => 0))), (q4, .inl (X.2.1 0, 3, .inl (fun _ => 0))), (q5, .inl (X.2.1 1, 3, .inl (fun _ => 0))), (q6, .inl (X.2.1 1, 18, .inl (fun _ => 0))), (q7, .inl (X.2.1 0, 3, .inl (fun _ => 0))), (q8, .inl (X.2.1 0, 3, .inl (fun _ => 0)))]) H locs := h
  refine lv_aload_n B.hx B.hb dX8_init_93 rfl (lv_at hl 1 rfl) ?_
  refine i_getf B h 0 (k := 4) (T := TX8) rfl rfl in_X8 (by decide) kf_X8_18 rfl dX8_init_94 ?_
  refine lv_iload_n B.hx B.hb dX8_init_97 rfl (lv_at hl 0 rfl) ?_
  refine lv_bipush (v := 12) B.hx B.hb dX8_init_98 (by decide) ?_
  refine i_fill B (x := 0) (v := 12) 3 h rfl (by decide) dX8_init_100 (fun H locs h => ?_)
  have h : HI X A s ([(h0, .inr (8, [.ref t, .ref ca, .ref q1, .ref q2, .ref q3, .ref q4, .ref q5, .ref q6, .ref q7, .ref q8])), (q1, .inl (X.2.1 0, 3, .inl (upd (fun _ => 0) (0 : Int32).toNatClampNeg 1))), (q2, .inl (X.2.1 0, 3, .inl (upd (fun _ => 0) (0 : Int32).toNatClampNeg 20))), (q3, .inl (X.2.1 0, 3, .inl (upd (fun _ => 0) (0 : Int32).toNatClampNeg 12))), (q4, .inl (X.2.1 0, 3, .inl (fun _ => 0))), (q5, .inl (X.2.1 1, 3, .inl (fun _ => 0))), (q6, .inl (X.2.1 1, 18, .inl (fun _ => 0))), (q7, .inl (X.2.1 0, 3, .inl (fun _ => 0))), (q8, .inl (X.2.1 0, 3, .inl (fun _ => 0)))]) H locs := h
  refine lv_iinc (v := 1) (lv' := [(3, .int 1), (0, .ref h0), (1, .ref t), (2, .ref ca)]) B.hx B.hb dX8_init_101 hl (k := 0) rfl (by decide) (by decide) rfl (fun ls hl => ?_)
  refine lv_goto (tgt := 73) B.hx B.hb dX8_init_104 (by decide) ?_
  refine lv_iload_n B.hx B.hb dX8_init_73 rfl (lv_at hl 0 rfl) ?_
  refine lv_iconst (v := 3) B.hx B.hb dX8_init_74 (by decide) ?_
  refine lv_icmp_ge (tgt := 107) B.hx B.hb dX8_init_75 (by decide) (fun c9 => absurd c9 (by decide)) (fun _ => ?_)
  refine lv_aload_n B.hx B.hb dX8_init_78 rfl (lv_at hl 1 rfl) ?_
  refine i_getf B h 0 (k := 2) (T := TX8) rfl rfl in_X8 (by decide) kf_X8_9 rfl dX8_init_79 ?_
  refine lv_iload_n B.hx B.hb dX8_init_82 rfl (lv_at hl 0 rfl) ?_
  refine lv_iconst (v := 1) B.hx B.hb dX8_init_83 (by decide) ?_
  refine i_fill B (x := 1) (v := 1) 1 h rfl (by decide) dX8_init_84 (fun H locs h => ?_)
  have h : HI X A s ([(h0, .inr (8, [.ref t, .ref ca, .ref q1, .ref q2, .ref q3, .ref q4, .ref q5, .ref q6, .ref q7, .ref q8])), (q1, .inl (X.2.1 0, 3, .inl (upd (upd (fun _ => 0) (0 : Int32).toNatClampNeg 1) (1 : Int32).toNatClampNeg 1))), (q2, .inl (X.2.1 0, 3, .inl (upd (fun _ => 0) (0 : Int32).toNatClampNeg 20))), (q3, .inl (X.2.1 0, 3, .inl (upd (fun _ => 0) (0 : Int32).toNatClampNeg 12))), (q4, .inl (X.2.1 0, 3, .inl (fun _ => 0))), (q5, .inl (X.2.1 1, 3, .inl (fun _ => 0))), (q6, .inl (X.2.1 1, 18, .inl (fun _ => 0))), (q7, .inl (X.2.1 0, 3, .inl (fun _ => 0))), (q8, .inl (X.2.1 0, 3, .inl (fun _ => 0)))]) H locs := h
  refine lv_aload_n B.hx B.hb dX8_init_85 rfl (lv_at hl 1 rfl) ?_
  refine i_getf B h 0 (k := 3) (T := TX8) rfl rfl in_X8 (by decide) kf_X8_15 rfl dX8_init_86 ?_
  refine lv_iload_n B.hx B.hb dX8_init_89 rfl (lv_at hl 0 rfl) ?_
  refine lv_bipush (v := 20) B.hx B.hb dX8_init_90 (by decide) ?_
  refine i_fill B (x := 1) (v := 20) 2 h rfl (by decide) dX8_init_92 (fun H locs h => ?_)
  have h : HI X A s ([(h0, .inr (8, [.ref t, .ref ca, .ref q1, .ref q2, .ref q3, .ref q4, .ref q5, .ref q6, .ref q7, .ref q8])), (q1, .inl (X.2.1 0, 3, .inl (upd (upd (fun _ => 0) (0 : Int32).toNatClampNeg 1) (1 : Int32).toNatClampNeg 1))), (q2, .inl (X.2.1 0, 3, .inl (upd (upd (fun _ => 0) (0 : Int32).toNatClampNeg 20) (1 : Int32).toNatClampNeg 20))), (q3, .inl (X.2.1 0, 3, .inl (upd (fun _ => 0) (0 : Int32).toNatClampNeg 12))), (q4, .inl (X.2.1 0, 3, .inl (fun _ => 0))), (q5, .inl (X.2.1 1, 3, .inl (fun _ => 0))), (q6, .inl (X.2.1 1, 18, .inl (fun _ => 0))), (q7, .inl (X.2.1 0, 3, .inl (fun _ => 0))), (q8, .inl (X.2.1 0, 3, .inl (fun _ => 0)))]) H locs := h
  refine lv_aload_n B.hx B.hb dX8_init_93 rfl (lv_at hl 1 rfl) ?_
  refine i_getf B h 0 (k := 4) (T := TX8) rfl rfl in_X8 (by decide) kf_X8_18 rfl dX8_init_94 ?_
  refine lv_iload_n B.hx B.hb dX8_init_97 rfl (lv_at hl 0 rfl) ?_
  refine lv_bipush (v := 12) B.hx B.hb dX8_init_98 (by decide) ?_
  refine i_fill B (x := 1) (v := 12) 3 h rfl (by decide) dX8_init_100 (fun H locs h => ?_)
  have h : HI X A s ([(h0, .inr (8, [.ref t, .ref ca, .ref q1, .ref q2, .ref q3, .ref q4, .ref q5, .ref q6, .ref q7, .ref q8])), (q1, .inl (X.2.1 0, 3, .inl (upd (upd (fun _ => 0) (0 : Int32).toNatClampNeg 1) (1 : Int32).toNatClampNeg 1))), (q2, .inl (X.2.1 0, 3, .inl (upd (upd (fun _ => 0) (0 : Int32).toNatClampNeg 20) (1 : Int32).toNatClampNeg 20))), (q3, .inl (X.2.1 0, 3, .inl (upd (upd (fun _ => 0) (0 : Int32).toNatClampNeg 12) (1 : Int32).toNatClampNeg 12))), (q4, .inl (X.2.1 0, 3, .inl (fun _ => 0))), (q5, .inl (X.2.1 1, 3, .inl (fun _ => 0))), (q6, .inl (X.2.1 1, 18, .inl (fun _ => 0))), (q7, .inl (X.2.1 0, 3, .inl (fun _ => 0))), (q8, .inl (X.2.1 0, 3, .inl (fun _ => 0)))]) H locs := h
  refine lv_iinc (v := 2) (lv' := [(3, .int 2), (0, .ref h0), (1, .ref t), (2, .ref ca)]) B.hx B.hb dX8_init_101 hl (k := 0) rfl (by decide) (by decide) rfl (fun ls hl => ?_)
  refine lv_goto (tgt := 73) B.hx B.hb dX8_init_104 (by decide) ?_
  refine lv_iload_n B.hx B.hb dX8_init_73 rfl (lv_at hl 0 rfl) ?_
  refine lv_iconst (v := 3) B.hx B.hb dX8_init_74 (by decide) ?_
  refine lv_icmp_ge (tgt := 107) B.hx B.hb dX8_init_75 (by decide) (fun c9 => absurd c9 (by decide)) (fun _ => ?_)
  refine lv_aload_n B.hx B.hb dX8_init_78 rfl (lv_at hl 1 rfl) ?_
  refine i_getf B h 0 (k := 2) (T := TX8) rfl rfl in_X8 (by decide) kf_X8_9 rfl dX8_init_79 ?_
  refine lv_iload_n B.hx B.hb dX8_init_82 rfl (lv_at hl 0 rfl) ?_
  refine lv_iconst (v := 1) B.hx B.hb dX8_init_83 (by decide) ?_
  refine i_fill B (x := 2) (v := 1) 1 h rfl (by decide) dX8_init_84 (fun H locs h => ?_)
  have h : HI X A s ([(h0, .inr (8, [.ref t, .ref ca, .ref q1, .ref q2, .ref q3, .ref q4, .ref q5, .ref q6, .ref q7, .ref q8])), (q1, .inl (X.2.1 0, 3, .inl (upd (upd (upd (fun _ => 0) (0 : Int32).toNatClampNeg 1) (1 : Int32).toNatClampNeg 1) (2 : Int32).toNatClampNeg 1))), (q2, .inl (X.2.1 0, 3, .inl (upd (upd (fun _ => 0) (0 : Int32).toNatClampNeg 20) (1 : Int32).toNatClampNeg 20))), (q3, .inl (X.2.1 0, 3, .inl (upd (upd (fun _ => 0) (0 : Int32).toNatClampNeg 12) (1 : Int32).toNatClampNeg 12))), (q4, .inl (X.2.1 0, 3, .inl (fun _ => 0))), (q5, .inl (X.2.1 1, 3, .inl (fun _ => 0))), (q6, .inl (X.2.1 1, 18, .inl (fun _ => 0))), (q7, .inl (X.2.1 0, 3, .inl (fun _ => 0))), (q8, .inl (X.2.1 0, 3, .inl (fun _ => 0)))]) H locs := h
  refine lv_aload_n B.hx B.hb dX8_init_85 rfl (lv_at hl 1 rfl) ?_
  refine i_getf B h 0 (k := 3) (T := TX8) rfl rfl in_X8 (by decide) kf_X8_15 rfl dX8_init_86 ?_
  refine lv_iload_n B.hx B.hb dX8_init_89 rfl (lv_at hl 0 rfl) ?_
  refine lv_bipush (v := 20) B.hx B.hb dX8_init_90 (by decide) ?_
  refine i_fill B (x := 2) (v := 20) 2 h rfl (by decide) dX8_init_92 (fun H locs h => ?_)
  have h : HI X A s ([(h0, .inr (8, [.ref t, .ref ca, .ref q1, .ref q2, .ref q3, .ref q4, .ref q5, .ref q6, .ref q7, .ref q8])), (q1, .inl (X.2.1 0, 3, .inl (upd (upd (upd (fun _ => 0) (0 : Int32).toNatClampNeg 1) (1 : Int32).toNatClampNeg 1) (2 : Int32).toNatClampNeg 1))), (q2, .inl (X.2.1 0, 3, .inl (upd (upd (upd (fun _ => 0) (0 : Int32).toNatClampNeg 20) (1 : Int32).toNatClampNeg 20) (2 : Int32).toNatClampNeg 20))), (q3, .inl (X.2.1 0, 3, .inl (upd (upd (fun _ => 0) (0 : Int32).toNatClampNeg 12) (1 : Int32).toNatClampNeg 12))), (q4, .inl (X.2.1 0, 3, .inl (fun _ => 0))), (q5, .inl (X.2.1 1, 3, .inl (fun _ => 0))), (q6, .inl (X.2.1 1, 18, .inl (fun _ => 0))), (q7, .inl (X.2.1 0, 3, .inl (fun _ => 0))), (q8, .inl (X.2.1 0, 3, .inl (fun _ => 0)))]) H locs := h
  refine lv_aload_n B.hx B.hb dX8_init_93 rfl (lv_at hl 1 rfl) ?_
  refine i_getf B h 0 (k := 4) (T := TX8) rfl rfl in_X8 (by decide) kf_X8_18 rfl dX8_init_94 ?_
  refine lv_iload_n B.hx B.hb dX8_init_97 rfl (lv_at hl 0 rfl) ?_
  refine lv_bipush (v := 12) B.hx B.hb dX8_init_98 (by decide) ?_
  refine i_fill B (x := 2) (v := 12) 3 h rfl (by decide) dX8_init_100 (fun H locs h => ?_)
  have h : HI X A s ([(h0, .inr (8, [.ref t, .ref ca, .ref q1, .ref q2, .ref q3, .ref q4, .ref q5, .ref q6, .ref q7, .ref q8])), (q1, .inl (X.2.1 0, 3, .inl (upd (upd (upd (fun _ => 0) (0 : Int32).toNatClampNeg 1) (1 : Int32).toNatClampNeg 1) (2 : Int32).toNatClampNeg 1))), (q2, .inl (X.2.1 0, 3, .inl (upd (upd (upd (fun _ => 0) (0 : Int32).toNatClampNeg 20) (1 : Int32).toNatClampNeg 20) (2 : Int32).toNatClampNeg 20))), (q3, .inl (X.2.1 0, 3, .inl (upd (upd (upd (fun _ => 0) (0 : Int32).toNatClampNeg 12) (1 : Int32).toNatClampNeg 12) (2 : Int32).toNatClampNeg 12))), (q4, .inl (X.2.1 0, 3, .inl (fun _ => 0))), (q5, .inl (X.2.1 1, 3, .inl (fun _ => 0))), (q6, .inl (X.2.1 1, 18, .inl (fun _ => 0))), (q7, .inl (X.2.1 0, 3, .inl (fun _ => 0))), (q8, .inl (X.2.1 0, 3, .inl (fun _ => 0)))]) H locs := h
  refine lv_iinc (v := 3) (lv' := [(3, .int 3), (0, .ref h0), (1, .ref t), (2, .ref ca)]) B.hx B.hb dX8_init_101 hl (k := 0) rfl (by decide) (by decide) rfl (fun ls hl => ?_)
  refine lv_goto (tgt := 73) B.hx B.hb dX8_init_104 (by decide) ?_
  refine lv_iload_n B.hx B.hb dX8_init_73 rfl (lv_at hl 0 rfl) ?_
  refine lv_iconst (v := 3) B.hx B.hb dX8_init_74 (by decide) ?_
  refine lv_icmp_ge (tgt := 107) B.hx B.hb dX8_init_75 (by decide) (fun _ => ?_) (fun c9 => absurd (by decide) c9)
  have h := HI.nrm (a := q1) 1 (fun _ => 1) h rfl (by decide)
  have h : HI X A s ([(h0, .inr (8, [.ref t, .ref ca, .ref q1, .ref q2, .ref q3, .ref q4, .ref q5, .ref q6, .ref q7, .ref q8])), (q1, .inl (X.2.1 0, 3, .inl (fun _ => 1))), (q2, .inl (X.2.1 0, 3, .inl (upd (upd (upd (fun _ => 0) (0 : Int32).toNatClampNeg 20) (1 : Int32).toNatClampNeg 20) (2 : Int32).toNatClampNeg 20))), (q3, .inl (X.2.1 0, 3, .inl (upd (upd (upd (fun _ => 0) (0 : Int32).toNatClampNeg 12) (1 : Int32).toNatClampNeg 12) (2 : Int32).toNatClampNeg 12))), (q4, .inl (X.2.1 0, 3, .inl (fun _ => 0))), (q5, .inl (X.2.1 1, 3, .inl (fun _ => 0))), (q6, .inl (X.2.1 1, 18, .inl (fun _ => 0))), (q7, .inl (X.2.1 0, 3, .inl (fun _ => 0))), (q8, .inl (X.2.1 0, 3, .inl (fun _ => 0)))]) H locs := h
  have h := HI.nrm (a := q2) 2 (fun _ => 20) h rfl (by decide)
  have h : HI X A s ([(h0, .inr (8, [.ref t, .ref ca, .ref q1, .ref q2, .ref q3, .ref q4, .ref q5, .ref q6, .ref q7, .ref q8])), (q1, .inl (X.2.1 0, 3, .inl (fun _ => 1))), (q2, .inl (X.2.1 0, 3, .inl (fun _ => 20))), (q3, .inl (X.2.1 0, 3, .inl (upd (upd (upd (fun _ => 0) (0 : Int32).toNatClampNeg 12) (1 : Int32).toNatClampNeg 12) (2 : Int32).toNatClampNeg 12))), (q4, .inl (X.2.1 0, 3, .inl (fun _ => 0))), (q5, .inl (X.2.1 1, 3, .inl (fun _ => 0))), (q6, .inl (X.2.1 1, 18, .inl (fun _ => 0))), (q7, .inl (X.2.1 0, 3, .inl (fun _ => 0))), (q8, .inl (X.2.1 0, 3, .inl (fun _ => 0)))]) H locs := h
  have h := HI.nrm (a := q3) 3 (fun _ => 12) h rfl (by decide)
  have h : HI X A s ([(h0, .inr (8, [.ref t, .ref ca, .ref q1, .ref q2, .ref q3, .ref q4, .ref q5, .ref q6, .ref q7, .ref q8])), (q1, .inl (X.2.1 0, 3, .inl (fun _ => 1))), (q2, .inl (X.2.1 0, 3, .inl (fun _ => 20))), (q3, .inl (X.2.1 0, 3, .inl (fun _ => 12))), (q4, .inl (X.2.1 0, 3, .inl (fun _ => 0))), (q5, .inl (X.2.1 1, 3, .inl (fun _ => 0))), (q6, .inl (X.2.1 1, 18, .inl (fun _ => 0))), (q7, .inl (X.2.1 0, 3, .inl (fun _ => 0))), (q8, .inl (X.2.1 0, 3, .inl (fun _ => 0)))]) H locs := h
  exact i_vret B hr hlk h (fun i => (if i < 5 then (if i < 3 then (if i < 2 then q1 else q2) else (if i < 4 then q3 else q4)) else (if i < 7 then (if i < 6 then q5 else q6) else (if i < 8 then q7 else q8)))) rfl dX8_init_107
abbrev rmi_X7 : Room := { frames := 2, cells := 22, slots := 402, locals := 42 }
set_option maxHeartbeats 4000000 in
set_option maxRecDepth 100000 in
theorem c_X7_init (l : Launch) (X : XT) (h0 t ca : Nat) (sz : Nat) : Met l yX7_init (wbig yX7_init cX7_init 4 none) rmi_X7 (va_Pc [.ref h0, .ref t, .ref ca] (IP X [(h0, .inr (7, [.null, .null, .null, .null, .null, .null, .int 0]))] sz)) (QN X [(h0, .inr (7, [.null, .null, .null, .null, .null, .null, .int 0]))] sz (wX7 X t ca h0)) 22 402 (va_A [(h0, .inr (7, [.null, .null, .null, .null, .null, .null, .int 0]))] sz) := by
  refine init_go (Bp := wX7 X t ca h0) (by decide +kernel) (Nat.le_of_ble_eq_true rfl) ?_
  intro p e s m args below meth c A hA B hr hlk hin h ls hl
  have hl : lv_has ls 4 [(0, .ref h0), (1, .ref t), (2, .ref ca)] := hl
  refine lv_aload_n B.hx B.hb dX7_init_0 rfl (lv_at hl 0 rfl) ?_
  refine i_obj B hl.1 (big_at 191 (by decide +kernel) (by decide +kernel)) (Nat.le_of_ble_eq_true rfl) (Nat.le_of_ble_eq_true rfl) dX7_init_1 ?_
  refine lv_aload_n B.hx B.hb dX7_init_4 rfl (lv_at hl 0 rfl) ?_
  refine lv_bipush (v := 6) B.hx B.hb dX7_init_5 (by decide) ?_
  refine i_newq B h hA 2 rfl (big_at 192 (by decide +kernel) (by decide +kernel)) B.hN.2.2 6 (by decide +kernel) (by decide +kernel) (Nat.le_of_ble_eq_true rfl) (Nat.le_of_ble_eq_true rfl) (Nat.le_of_ble_eq_true rfl) dX7_init_7 (fun q1 H h => ?_)
  have h : HI X A s ([(h0, .inr (7, [.null, .null, .null, .null, .null, .null, .int 0])), (q1, .inl (X.2.1 2, 6, .inr (.inr (.inr (.inr (fun _ => none))))))]) H [] := h
  refine i_putF (ty := .array (.object "QueryHarbor$Rows")) (k := 2) (T := TX7) (v := .ref q1) B hin h rfl in_X7 tyX7 tyX7_ok nmX7 (by decide) kf_X7_11 rfl rfl (by decide +kernel) rfl rfl (Nat.le_of_ble_eq_true rfl) dX7_init_10 (fun H locs h => ?_)
  have h : HI X A s ([(h0, .inr (7, [.null, .null, .ref q1, .null, .null, .null, .int 0])), (q1, .inl (X.2.1 2, 6, .inr (.inr (.inr (.inr (fun _ => none))))))]) H locs := h
  refine i_pc (pc' := 13) (c' := 1) (s' := 6) rfl rfl rfl ?_
  refine lv_aload_n B.hx B.hb dX7_init_13 rfl (lv_at hl 0 rfl) ?_
  refine lv_bipush (v := 6) B.hx B.hb dX7_init_14 (by decide) ?_
  refine i_newi B h hA 6 (by decide +kernel) (by decide +kernel) (Nat.le_of_ble_eq_true rfl) (Nat.le_of_ble_eq_true rfl) (Nat.le_of_ble_eq_true rfl) dX7_init_16 (fun q2 H h => ?_)
  have h : HI X A s ([(h0, .inr (7, [.null, .null, .ref q1, .null, .null, .null, .int 0])), (q1, .inl (X.2.1 2, 6, .inr (.inr (.inr (.inr (fun _ => none)))))), (q2, .inl (X.2.1 0, 6, .inl (fun _ => 0)))]) H locs := h
  refine i_putF (ty := .array (.int)) (k := 3) (T := TX7) (v := .ref q2) B hin h rfl in_X7 tyX7 tyX7_ok nmX7 (by decide) kf_X7_17 rfl rfl (by decide +kernel) rfl rfl (Nat.le_of_ble_eq_true rfl) dX7_init_18 (fun H locs h => ?_)
  have h : HI X A s ([(h0, .inr (7, [.null, .null, .ref q1, .ref q2, .null, .null, .int 0])), (q1, .inl (X.2.1 2, 6, .inr (.inr (.inr (.inr (fun _ => none)))))), (q2, .inl (X.2.1 0, 6, .inl (fun _ => 0)))]) H locs := h
  refine i_pc (pc' := 21) (c' := 2) (s' := 12) rfl rfl rfl ?_
  refine lv_aload_n B.hx B.hb dX7_init_21 rfl (lv_at hl 0 rfl) ?_
  refine lv_bipush (v := 6) B.hx B.hb dX7_init_22 (by decide) ?_
  refine i_newi B h hA 6 (by decide +kernel) (by decide +kernel) (Nat.le_of_ble_eq_true rfl) (Nat.le_of_ble_eq_true rfl) (Nat.le_of_ble_eq_true rfl) dX7_init_24 (fun q3 H h => ?_)
  have h : HI X A s ([(h0, .inr (7, [.null, .null, .ref q1, .ref q2, .null, .null, .int 0])), (q1, .inl (X.2.1 2, 6, .inr (.inr (.inr (.inr (fun _ => none)))))), (q2, .inl (X.2.1 0, 6, .inl (fun _ => 0))), (q3, .inl (X.2.1 0, 6, .inl (fun _ => 0)))]) H locs := h
  refine i_putF (ty := .array (.int)) (k := 4) (T := TX7) (v := .ref q3) B hin h rfl in_X7 tyX7 tyX7_ok nmX7 (by decide) kf_X7_21 rfl rfl (by decide +kernel) rfl rfl (Nat.le_of_ble_eq_true rfl) dX7_init_26 (fun H locs h => ?_)
  have h : HI X A s ([(h0, .inr (7, [.null, .null, .ref q1, .ref q2, .ref q3, .null, .int 0])), (q1, .inl (X.2.1 2, 6, .inr (.inr (.inr (.inr (fun _ => none)))))), (q2, .inl (X.2.1 0, 6, .inl (fun _ => 0))), (q3, .inl (X.2.1 0, 6, .inl (fun _ => 0)))]) H locs := h
  refine i_pc (pc' := 29) (c' := 3) (s' := 18) rfl rfl rfl ?_
  refine lv_aload_n B.hx B.hb dX7_init_29 rfl (lv_at hl 0 rfl) ?_
  refine lv_bipush (v := 6) B.hx B.hb dX7_init_30 (by decide) ?_
  refine i_newi B h hA 6 (by decide +kernel) (by decide +kernel) (Nat.le_of_ble_eq_true rfl) (Nat.le_of_ble_eq_true rfl) (Nat.le_of_ble_eq_true rfl) dX7_init_32 (fun q4 H h => ?_)
  have h : HI X A s ([(h0, .inr (7, [.null, .null, .ref q1, .ref q2, .ref q3, .null, .int 0])), (q1, .inl (X.2.1 2, 6, .inr (.inr (.inr (.inr (fun _ => none)))))), (q2, .inl (X.2.1 0, 6, .inl (fun _ => 0))), (q3, .inl (X.2.1 0, 6, .inl (fun _ => 0))), (q4, .inl (X.2.1 0, 6, .inl (fun _ => 0)))]) H locs := h
  refine i_putF (ty := .array (.int)) (k := 5) (T := TX7) (v := .ref q4) B hin h rfl in_X7 tyX7 tyX7_ok nmX7 (by decide) kf_X7_24 rfl rfl (by decide +kernel) rfl rfl (Nat.le_of_ble_eq_true rfl) dX7_init_34 (fun H locs h => ?_)
  have h : HI X A s ([(h0, .inr (7, [.null, .null, .ref q1, .ref q2, .ref q3, .ref q4, .int 0])), (q1, .inl (X.2.1 2, 6, .inr (.inr (.inr (.inr (fun _ => none)))))), (q2, .inl (X.2.1 0, 6, .inl (fun _ => 0))), (q3, .inl (X.2.1 0, 6, .inl (fun _ => 0))), (q4, .inl (X.2.1 0, 6, .inl (fun _ => 0)))]) H locs := h
  refine i_pc (pc' := 37) (c' := 4) (s' := 24) rfl rfl rfl ?_
  refine lv_aload_n B.hx B.hb dX7_init_37 rfl (lv_at hl 0 rfl) ?_
  refine lv_aload_n B.hx B.hb dX7_init_38 rfl (lv_at hl 1 rfl) ?_
  refine i_putF (ty := .object "QueryHarbor$Time") (k := 0) (T := TX7) (v := .ref t) B hin h rfl in_X7 tyX7 tyX7_ok nmX7 (by decide) kf_X7_27 rfl rfl (by decide +kernel) rfl rfl (Nat.le_of_ble_eq_true rfl) dX7_init_39 (fun H locs h => ?_)
  have h : HI X A s ([(h0, .inr (7, [.ref t, .null, .ref q1, .ref q2, .ref q3, .ref q4, .int 0])), (q1, .inl (X.2.1 2, 6, .inr (.inr (.inr (.inr (fun _ => none)))))), (q2, .inl (X.2.1 0, 6, .inl (fun _ => 0))), (q3, .inl (X.2.1 0, 6, .inl (fun _ => 0))), (q4, .inl (X.2.1 0, 6, .inl (fun _ => 0)))]) H locs := h
  refine i_pc (pc' := 42) (c' := 4) (s' := 24) rfl rfl rfl ?_
  refine lv_aload_n B.hx B.hb dX7_init_42 rfl (lv_at hl 0 rfl) ?_
  refine lv_aload_n B.hx B.hb dX7_init_43 rfl (lv_at hl 2 rfl) ?_
  refine i_putF (ty := .object "QueryHarbor$Cache") (k := 1) (T := TX7) (v := .ref ca) B hin h rfl in_X7 tyX7 tyX7_ok nmX7 (by decide) kf_X7_31 rfl rfl (by decide +kernel) rfl rfl (Nat.le_of_ble_eq_true rfl) dX7_init_44 (fun H locs h => ?_)
  have h : HI X A s ([(h0, .inr (7, [.ref t, .ref ca, .ref q1, .ref q2, .ref q3, .ref q4, .int 0])), (q1, .inl (X.2.1 2, 6, .inr (.inr (.inr (.inr (fun _ => none)))))), (q2, .inl (X.2.1 0, 6, .inl (fun _ => 0))), (q3, .inl (X.2.1 0, 6, .inl (fun _ => 0))), (q4, .inl (X.2.1 0, 6, .inl (fun _ => 0)))]) H locs := h
  refine i_pc (pc' := 47) (c' := 4) (s' := 24) rfl rfl rfl ?_
  refine lv_iconst (v := 0) B.hx B.hb dX7_init_47 (by decide) ?_
  refine lv_istore_n (lv' := [(3, .int 0), (0, .ref h0), (1, .ref t), (2, .ref ca)]) B.hx B.hb dX7_init_48 rfl hl (by decide) rfl (fun ls hl => ?_)
  refine lv_iload_n B.hx B.hb dX7_init_49 rfl (lv_at hl 0 rfl) ?_
  refine lv_bipush (v := 6) B.hx B.hb dX7_init_50 (by decide) ?_
  refine lv_icmp_ge (tgt := 82) B.hx B.hb dX7_init_52 (by decide) (fun c9 => absurd c9 (by decide)) (fun _ => ?_)
  refine lv_aload_n B.hx B.hb dX7_init_55 rfl (lv_at hl 1 rfl) ?_
  refine i_getf B h 0 (k := 2) (T := TX7) rfl rfl in_X7 (by decide) kf_X7_11 rfl dX7_init_56 ?_
  refine lv_iload_n B.hx B.hb dX7_init_59 rfl (lv_at hl 0 rfl) ?_
  refine i_new (ci := 6) (fs := [.null, .null, .int 0]) B h hA rfl in_X6 tyX6 tyX6_ok (big_at 192 (by decide +kernel) (by decide +kernel)) (big_at 60 (by decide +kernel) (by decide +kernel)) ki_X6 (fun j hj => by rcases (show j = 0 ∨ j = 1 ∨ j = 2 by omega) with rfl | rfl | rfl <;> rfl) (Nat.le_of_ble_eq_true rfl) (Nat.le_of_ble_eq_true rfl) dX7_init_60 (fun q5 H h => ?_)
  refine lv_dup B.hx B.hb dX7_init_63 rfl ?_
  refine i_callN (As := []) (rest := [.ref q5, .int 0, .ref q1]) (n := 0) (host := "QueryHarbor") B h hA (c_X6_init l X q5  H.size) hl.1 kc_X6_init (List.mem_of_getElem? (i := 3) (by decide +kernel)) ki_X6 kn_X6_init rfl ⟨by decide +kernel, by decide +kernel, by decide +kernel⟩ rfl rfl rfl ⟨(Nat.le_of_ble_eq_true rfl), (Nat.le_of_ble_eq_true rfl)⟩ (Nat.le_of_ble_eq_true rfl) ⟨(Nat.le_of_ble_eq_true rfl), (Nat.le_of_ble_eq_true rfl)⟩ dX7_init_64 rfl (fun u6 H locs h => ?_)
  have h : HI X A s ((h0, .inr (7, [.ref t, .ref ca, .ref q1, .ref q2, .ref q3, .ref q4, .int 0])) :: (q1, .inl (X.2.1 2, 6, .inr (.inr (.inr (.inr (fun _ => none)))))) :: (q2, .inl (X.2.1 0, 6, .inl (fun _ => 0))) :: (q3, .inl (X.2.1 0, 6, .inl (fun _ => 0))) :: (q4, .inl (X.2.1 0, 6, .inl (fun _ => 0))) :: (wX6 X q5 u6)) H locs := h
  refine i_pc (pc' := 67) (c' := 7) (s' := 87) rfl rfl rfl ?_
  refine i_fillR B (x := 0) 2 1 5 h rfl rfl rfl rfl (by decide) dX7_init_67 (fun H locs h => ?_)
  have h : HI X A s ((h0, .inr (7, [.ref t, .ref ca, .ref q1, .ref q2, .ref q3, .ref q4, .int 0])) :: (q1, .inl (X.2.1 2, 6, .inr (.inr (.inr (.inr (va_up (fun _ => none) (0 : Int32).toNatClampNeg (some q5))))))) :: (q2, .inl (X.2.1 0, 6, .inl (fun _ => 0))) :: (q3, .inl (X.2.1 0, 6, .inl (fun _ => 0))) :: (q4, .inl (X.2.1 0, 6, .inl (fun _ => 0))) :: (wX6 X q5 u6)) H locs := h
  refine i_pc (pc' := 68) (c' := 7) (s' := 87) rfl rfl rfl ?_
  refine lv_aload_n B.hx B.hb dX7_init_68 rfl (lv_at hl 1 rfl) ?_
  refine i_getf B h 0 (k := 4) (T := TX7) rfl rfl in_X7 (by decide) kf_X7_21 rfl dX7_init_69 ?_
  refine lv_iload_n B.hx B.hb dX7_init_72 rfl (lv_at hl 0 rfl) ?_
  refine lv_bipush (v := 10) B.hx B.hb dX7_init_73 (by decide) ?_
  refine i_fill B (x := 0) (v := 10) 3 h rfl (by decide) dX7_init_75 (fun H locs h => ?_)
  have h : HI X A s ((h0, .inr (7, [.ref t, .ref ca, .ref q1, .ref q2, .ref q3, .ref q4, .int 0])) :: (q1, .inl (X.2.1 2, 6, .inr (.inr (.inr (.inr (va_up (fun _ => none) (0 : Int32).toNatClampNeg (some q5))))))) :: (q2, .inl (X.2.1 0, 6, .inl (fun _ => 0))) :: (q3, .inl (X.2.1 0, 6, .inl (upd (fun _ => 0) (0 : Int32).toNatClampNeg 10))) :: (q4, .inl (X.2.1 0, 6, .inl (fun _ => 0))) :: (wX6 X q5 u6)) H locs := h
  refine lv_iinc (v := 1) (lv' := [(3, .int 1), (0, .ref h0), (1, .ref t), (2, .ref ca)]) B.hx B.hb dX7_init_76 hl (k := 0) rfl (by decide) (by decide) rfl (fun ls hl => ?_)
  refine lv_goto (tgt := 49) B.hx B.hb dX7_init_79 (by decide) ?_
  refine lv_iload_n B.hx B.hb dX7_init_49 rfl (lv_at hl 0 rfl) ?_
  refine lv_bipush (v := 6) B.hx B.hb dX7_init_50 (by decide) ?_
  refine lv_icmp_ge (tgt := 82) B.hx B.hb dX7_init_52 (by decide) (fun c9 => absurd c9 (by decide)) (fun _ => ?_)
  refine lv_aload_n B.hx B.hb dX7_init_55 rfl (lv_at hl 1 rfl) ?_
  refine i_getf B h 0 (k := 2) (T := TX7) rfl rfl in_X7 (by decide) kf_X7_11 rfl dX7_init_56 ?_
  refine lv_iload_n B.hx B.hb dX7_init_59 rfl (lv_at hl 0 rfl) ?_
  refine i_new (ci := 6) (fs := [.null, .null, .int 0]) B h hA rfl in_X6 tyX6 tyX6_ok (big_at 192 (by decide +kernel) (by decide +kernel)) (big_at 60 (by decide +kernel) (by decide +kernel)) ki_X6 (fun j hj => by rcases (show j = 0 ∨ j = 1 ∨ j = 2 by omega) with rfl | rfl | rfl <;> rfl) (Nat.le_of_ble_eq_true rfl) (Nat.le_of_ble_eq_true rfl) dX7_init_60 (fun q7 H h => ?_)
  refine lv_dup B.hx B.hb dX7_init_63 rfl ?_
  refine i_callN (As := []) (rest := [.ref q7, .int 1, .ref q1]) (n := 0) (host := "QueryHarbor") B h hA (c_X6_init l X q7  H.size) hl.1 kc_X6_init (List.mem_of_getElem? (i := 3) (by decide +kernel)) ki_X6 kn_X6_init rfl ⟨by decide +kernel, by decide +kernel, by decide +kernel⟩ rfl rfl rfl ⟨(Nat.le_of_ble_eq_true rfl), (Nat.le_of_ble_eq_true rfl)⟩ (Nat.le_of_ble_eq_true rfl) ⟨(Nat.le_of_ble_eq_true rfl), (Nat.le_of_ble_eq_true rfl)⟩ dX7_init_64 rfl (fun u8 H locs h => ?_)
  have h : HI X A s ((h0, .inr (7, [.ref t, .ref ca, .ref q1, .ref q2, .ref q3, .ref q4, .int 0])) :: (q1, .inl (X.2.1 2, 6, .inr (.inr (.inr (.inr (va_up (fun _ => none) (0 : Int32).toNatClampNeg (some q5))))))) :: (q2, .inl (X.2.1 0, 6, .inl (fun _ => 0))) :: (q3, .inl (X.2.1 0, 6, .inl (upd (fun _ => 0) (0 : Int32).toNatClampNeg 10))) :: (q4, .inl (X.2.1 0, 6, .inl (fun _ => 0))) :: (wX6 X q5 u6 ++ wX6 X q7 u8)) H locs := h
  refine i_pc (pc' := 67) (c' := 10) (s' := 150) rfl rfl rfl ?_
  refine i_fillR B (x := 1) 2 1 8 h rfl rfl rfl rfl (by decide) dX7_init_67 (fun H locs h => ?_)
  have h : HI X A s ((h0, .inr (7, [.ref t, .ref ca, .ref q1, .ref q2, .ref q3, .ref q4, .int 0])) :: (q1, .inl (X.2.1 2, 6, .inr (.inr (.inr (.inr (va_up (va_up (fun _ => none) (0 : Int32).toNatClampNeg (some q5)) (1 : Int32).toNatClampNeg (some q7))))))) :: (q2, .inl (X.2.1 0, 6, .inl (fun _ => 0))) :: (q3, .inl (X.2.1 0, 6, .inl (upd (fun _ => 0) (0 : Int32).toNatClampNeg 10))) :: (q4, .inl (X.2.1 0, 6, .inl (fun _ => 0))) :: (wX6 X q5 u6 ++ wX6 X q7 u8)) H locs := h
  refine i_pc (pc' := 68) (c' := 10) (s' := 150) rfl rfl rfl ?_
  refine lv_aload_n B.hx B.hb dX7_init_68 rfl (lv_at hl 1 rfl) ?_
  refine i_getf B h 0 (k := 4) (T := TX7) rfl rfl in_X7 (by decide) kf_X7_21 rfl dX7_init_69 ?_
  refine lv_iload_n B.hx B.hb dX7_init_72 rfl (lv_at hl 0 rfl) ?_
  refine lv_bipush (v := 10) B.hx B.hb dX7_init_73 (by decide) ?_
  refine i_fill B (x := 1) (v := 10) 3 h rfl (by decide) dX7_init_75 (fun H locs h => ?_)
  have h : HI X A s ((h0, .inr (7, [.ref t, .ref ca, .ref q1, .ref q2, .ref q3, .ref q4, .int 0])) :: (q1, .inl (X.2.1 2, 6, .inr (.inr (.inr (.inr (va_up (va_up (fun _ => none) (0 : Int32).toNatClampNeg (some q5)) (1 : Int32).toNatClampNeg (some q7))))))) :: (q2, .inl (X.2.1 0, 6, .inl (fun _ => 0))) :: (q3, .inl (X.2.1 0, 6, .inl (upd (upd (fun _ => 0) (0 : Int32).toNatClampNeg 10) (1 : Int32).toNatClampNeg 10))) :: (q4, .inl (X.2.1 0, 6, .inl (fun _ => 0))) :: (wX6 X q5 u6 ++ wX6 X q7 u8)) H locs := h
  refine lv_iinc (v := 2) (lv' := [(3, .int 2), (0, .ref h0), (1, .ref t), (2, .ref ca)]) B.hx B.hb dX7_init_76 hl (k := 0) rfl (by decide) (by decide) rfl (fun ls hl => ?_)
  refine lv_goto (tgt := 49) B.hx B.hb dX7_init_79 (by decide) ?_
  refine lv_iload_n B.hx B.hb dX7_init_49 rfl (lv_at hl 0 rfl) ?_
  refine lv_bipush (v := 6) B.hx B.hb dX7_init_50 (by decide) ?_
  refine lv_icmp_ge (tgt := 82) B.hx B.hb dX7_init_52 (by decide) (fun c9 => absurd c9 (by decide)) (fun _ => ?_)
  refine lv_aload_n B.hx B.hb dX7_init_55 rfl (lv_at hl 1 rfl) ?_
  refine i_getf B h 0 (k := 2) (T := TX7) rfl rfl in_X7 (by decide) kf_X7_11 rfl dX7_init_56 ?_
  refine lv_iload_n B.hx B.hb dX7_init_59 rfl (lv_at hl 0 rfl) ?_
  refine i_new (ci := 6) (fs := [.null, .null, .int 0]) B h hA rfl in_X6 tyX6 tyX6_ok (big_at 192 (by decide +kernel) (by decide +kernel)) (big_at 60 (by decide +kernel) (by decide +kernel)) ki_X6 (fun j hj => by rcases (show j = 0 ∨ j = 1 ∨ j = 2 by omega) with rfl | rfl | rfl <;> rfl) (Nat.le_of_ble_eq_true rfl) (Nat.le_of_ble_eq_true rfl) dX7_init_60 (fun q9 H h => ?_)
  refine lv_dup B.hx B.hb dX7_init_63 rfl ?_
  refine i_callN (As := []) (rest := [.ref q9, .int 2, .ref q1]) (n := 0) (host := "QueryHarbor") B h hA (c_X6_init l X q9  H.size) hl.1 kc_X6_init (List.mem_of_getElem? (i := 3) (by decide +kernel)) ki_X6 kn_X6_init rfl ⟨by decide +kernel, by decide +kernel, by decide +kernel⟩ rfl rfl rfl ⟨(Nat.le_of_ble_eq_true rfl), (Nat.le_of_ble_eq_true rfl)⟩ (Nat.le_of_ble_eq_true rfl) ⟨(Nat.le_of_ble_eq_true rfl), (Nat.le_of_ble_eq_true rfl)⟩ dX7_init_64 rfl (fun u10 H locs h => ?_)
  have h : HI X A s ((h0, .inr (7, [.ref t, .ref ca, .ref q1, .ref q2, .ref q3, .ref q4, .int 0])) :: (q1, .inl (X.2.1 2, 6, .inr (.inr (.inr (.inr (va_up (va_up (fun _ => none) (0 : Int32).toNatClampNeg (some q5)) (1 : Int32).toNatClampNeg (some q7))))))) :: (q2, .inl (X.2.1 0, 6, .inl (fun _ => 0))) :: (q3, .inl (X.2.1 0, 6, .inl (upd (upd (fun _ => 0) (0 : Int32).toNatClampNeg 10) (1 : Int32).toNatClampNeg 10))) :: (q4, .inl (X.2.1 0, 6, .inl (fun _ => 0))) :: (wX6 X q5 u6 ++ wX6 X q7 u8 ++ wX6 X q9 u10)) H locs := h
  refine i_pc (pc' := 67) (c' := 13) (s' := 213) rfl rfl rfl ?_
  refine i_fillR B (x := 2) 2 1 11 h rfl rfl rfl rfl (by decide) dX7_init_67 (fun H locs h => ?_)
  have h : HI X A s ((h0, .inr (7, [.ref t, .ref ca, .ref q1, .ref q2, .ref q3, .ref q4, .int 0])) :: (q1, .inl (X.2.1 2, 6, .inr (.inr (.inr (.inr (va_up (va_up (va_up (fun _ => none) (0 : Int32).toNatClampNeg (some q5)) (1 : Int32).toNatClampNeg (some q7)) (2 : Int32).toNatClampNeg (some q9))))))) :: (q2, .inl (X.2.1 0, 6, .inl (fun _ => 0))) :: (q3, .inl (X.2.1 0, 6, .inl (upd (upd (fun _ => 0) (0 : Int32).toNatClampNeg 10) (1 : Int32).toNatClampNeg 10))) :: (q4, .inl (X.2.1 0, 6, .inl (fun _ => 0))) :: (wX6 X q5 u6 ++ wX6 X q7 u8 ++ wX6 X q9 u10)) H locs := h
  refine i_pc (pc' := 68) (c' := 13) (s' := 213) rfl rfl rfl ?_
  refine lv_aload_n B.hx B.hb dX7_init_68 rfl (lv_at hl 1 rfl) ?_
  refine i_getf B h 0 (k := 4) (T := TX7) rfl rfl in_X7 (by decide) kf_X7_21 rfl dX7_init_69 ?_
  refine lv_iload_n B.hx B.hb dX7_init_72 rfl (lv_at hl 0 rfl) ?_
  refine lv_bipush (v := 10) B.hx B.hb dX7_init_73 (by decide) ?_
  refine i_fill B (x := 2) (v := 10) 3 h rfl (by decide) dX7_init_75 (fun H locs h => ?_)
  have h : HI X A s ((h0, .inr (7, [.ref t, .ref ca, .ref q1, .ref q2, .ref q3, .ref q4, .int 0])) :: (q1, .inl (X.2.1 2, 6, .inr (.inr (.inr (.inr (va_up (va_up (va_up (fun _ => none) (0 : Int32).toNatClampNeg (some q5)) (1 : Int32).toNatClampNeg (some q7)) (2 : Int32).toNatClampNeg (some q9))))))) :: (q2, .inl (X.2.1 0, 6, .inl (fun _ => 0))) :: (q3, .inl (X.2.1 0, 6, .inl (upd (upd (upd (fun _ => 0) (0 : Int32).toNatClampNeg 10) (1 : Int32).toNatClampNeg 10) (2 : Int32).toNatClampNeg 10))) :: (q4, .inl (X.2.1 0, 6, .inl (fun _ => 0))) :: (wX6 X q5 u6 ++ wX6 X q7 u8 ++ wX6 X q9 u10)) H locs := h
  refine lv_iinc (v := 3) (lv' := [(3, .int 3), (0, .ref h0), (1, .ref t), (2, .ref ca)]) B.hx B.hb dX7_init_76 hl (k := 0) rfl (by decide) (by decide) rfl (fun ls hl => ?_)
  refine lv_goto (tgt := 49) B.hx B.hb dX7_init_79 (by decide) ?_
  refine lv_iload_n B.hx B.hb dX7_init_49 rfl (lv_at hl 0 rfl) ?_
  refine lv_bipush (v := 6) B.hx B.hb dX7_init_50 (by decide) ?_
  refine lv_icmp_ge (tgt := 82) B.hx B.hb dX7_init_52 (by decide) (fun c9 => absurd c9 (by decide)) (fun _ => ?_)
  refine lv_aload_n B.hx B.hb dX7_init_55 rfl (lv_at hl 1 rfl) ?_
  refine i_getf B h 0 (k := 2) (T := TX7) rfl rfl in_X7 (by decide) kf_X7_11 rfl dX7_init_56 ?_
  refine lv_iload_n B.hx B.hb dX7_init_59 rfl (lv_at hl 0 rfl) ?_
  refine i_new (ci := 6) (fs := [.null, .null, .int 0]) B h hA rfl in_X6 tyX6 tyX6_ok (big_at 192 (by decide +kernel) (by decide +kernel)) (big_at 60 (by decide +kernel) (by decide +kernel)) ki_X6 (fun j hj => by rcases (show j = 0 ∨ j = 1 ∨ j = 2 by omega) with rfl | rfl | rfl <;> rfl) (Nat.le_of_ble_eq_true rfl) (Nat.le_of_ble_eq_true rfl) dX7_init_60 (fun q11 H h => ?_)
  refine lv_dup B.hx B.hb dX7_init_63 rfl ?_
  refine i_callN (As := []) (rest := [.ref q11, .int 3, .ref q1]) (n := 0) (host := "QueryHarbor") B h hA (c_X6_init l X q11  H.size) hl.1 kc_X6_init (List.mem_of_getElem? (i := 3) (by decide +kernel)) ki_X6 kn_X6_init rfl ⟨by decide +kernel, by decide +kernel, by decide +kernel⟩ rfl rfl rfl ⟨(Nat.le_of_ble_eq_true rfl), (Nat.le_of_ble_eq_true rfl)⟩ (Nat.le_of_ble_eq_true rfl) ⟨(Nat.le_of_ble_eq_true rfl), (Nat.le_of_ble_eq_true rfl)⟩ dX7_init_64 rfl (fun u12 H locs h => ?_)
  have h : HI X A s ((h0, .inr (7, [.ref t, .ref ca, .ref q1, .ref q2, .ref q3, .ref q4, .int 0])) :: (q1, .inl (X.2.1 2, 6, .inr (.inr (.inr (.inr (va_up (va_up (va_up (fun _ => none) (0 : Int32).toNatClampNeg (some q5)) (1 : Int32).toNatClampNeg (some q7)) (2 : Int32).toNatClampNeg (some q9))))))) :: (q2, .inl (X.2.1 0, 6, .inl (fun _ => 0))) :: (q3, .inl (X.2.1 0, 6, .inl (upd (upd (upd (fun _ => 0) (0 : Int32).toNatClampNeg 10) (1 : Int32).toNatClampNeg 10) (2 : Int32).toNatClampNeg 10))) :: (q4, .inl (X.2.1 0, 6, .inl (fun _ => 0))) :: (wX6 X q5 u6 ++ wX6 X q7 u8 ++ wX6 X q9 u10 ++ wX6 X q11 u12)) H locs := h
  refine i_pc (pc' := 67) (c' := 16) (s' := 276) rfl rfl rfl ?_
  refine i_fillR B (x := 3) 2 1 14 h rfl rfl rfl rfl (by decide) dX7_init_67 (fun H locs h => ?_)
  have h : HI X A s ((h0, .inr (7, [.ref t, .ref ca, .ref q1, .ref q2, .ref q3, .ref q4, .int 0])) :: (q1, .inl (X.2.1 2, 6, .inr (.inr (.inr (.inr (va_up (va_up (va_up (va_up (fun _ => none) (0 : Int32).toNatClampNeg (some q5)) (1 : Int32).toNatClampNeg (some q7)) (2 : Int32).toNatClampNeg (some q9)) (3 : Int32).toNatClampNeg (some q11))))))) :: (q2, .inl (X.2.1 0, 6, .inl (fun _ => 0))) :: (q3, .inl (X.2.1 0, 6, .inl (upd (upd (upd (fun _ => 0) (0 : Int32).toNatClampNeg 10) (1 : Int32).toNatClampNeg 10) (2 : Int32).toNatClampNeg 10))) :: (q4, .inl (X.2.1 0, 6, .inl (fun _ => 0))) :: (wX6 X q5 u6 ++ wX6 X q7 u8 ++ wX6 X q9 u10 ++ wX6 X q11 u12)) H locs := h
  refine i_pc (pc' := 68) (c' := 16) (s' := 276) rfl rfl rfl ?_
  refine lv_aload_n B.hx B.hb dX7_init_68 rfl (lv_at hl 1 rfl) ?_
  refine i_getf B h 0 (k := 4) (T := TX7) rfl rfl in_X7 (by decide) kf_X7_21 rfl dX7_init_69 ?_
  refine lv_iload_n B.hx B.hb dX7_init_72 rfl (lv_at hl 0 rfl) ?_
  refine lv_bipush (v := 10) B.hx B.hb dX7_init_73 (by decide) ?_
  refine i_fill B (x := 3) (v := 10) 3 h rfl (by decide) dX7_init_75 (fun H locs h => ?_)
  have h : HI X A s ((h0, .inr (7, [.ref t, .ref ca, .ref q1, .ref q2, .ref q3, .ref q4, .int 0])) :: (q1, .inl (X.2.1 2, 6, .inr (.inr (.inr (.inr (va_up (va_up (va_up (va_up (fun _ => none) (0 : Int32).toNatClampNeg (some q5)) (1 : Int32).toNatClampNeg (some q7)) (2 : Int32).toNatClampNeg (some q9)) (3 : Int32).toNatClampNeg (some q11))))))) :: (q2, .inl (X.2.1 0, 6, .inl (fun _ => 0))) :: (q3, .inl (X.2.1 0, 6, .inl (upd (upd (upd (upd (fun _ => 0) (0 : Int32).toNatClampNeg 10) (1 : Int32).toNatClampNeg 10) (2 : Int32).toNatClampNeg 10) (3 : Int32).toNatClampNeg 10))) :: (q4, .inl (X.2.1 0, 6, .inl (fun _ => 0))) :: (wX6 X q5 u6 ++ wX6 X q7 u8 ++ wX6 X q9 u10 ++ wX6 X q11 u12)) H locs := h
  refine lv_iinc (v := 4) (lv' := [(3, .int 4), (0, .ref h0), (1, .ref t), (2, .ref ca)]) B.hx B.hb dX7_init_76 hl (k := 0) rfl (by decide) (by decide) rfl (fun ls hl => ?_)
  refine lv_goto (tgt := 49) B.hx B.hb dX7_init_79 (by decide) ?_
  refine lv_iload_n B.hx B.hb dX7_init_49 rfl (lv_at hl 0 rfl) ?_
  refine lv_bipush (v := 6) B.hx B.hb dX7_init_50 (by decide) ?_
  refine lv_icmp_ge (tgt := 82) B.hx B.hb dX7_init_52 (by decide) (fun c9 => absurd c9 (by decide)) (fun _ => ?_)
  refine lv_aload_n B.hx B.hb dX7_init_55 rfl (lv_at hl 1 rfl) ?_
  refine i_getf B h 0 (k := 2) (T := TX7) rfl rfl in_X7 (by decide) kf_X7_11 rfl dX7_init_56 ?_
  refine lv_iload_n B.hx B.hb dX7_init_59 rfl (lv_at hl 0 rfl) ?_
  refine i_new (ci := 6) (fs := [.null, .null, .int 0]) B h hA rfl in_X6 tyX6 tyX6_ok (big_at 192 (by decide +kernel) (by decide +kernel)) (big_at 60 (by decide +kernel) (by decide +kernel)) ki_X6 (fun j hj => by rcases (show j = 0 ∨ j = 1 ∨ j = 2 by omega) with rfl | rfl | rfl <;> rfl) (Nat.le_of_ble_eq_true rfl) (Nat.le_of_ble_eq_true rfl) dX7_init_60 (fun q13 H h => ?_)
  refine lv_dup B.hx B.hb dX7_init_63 rfl ?_
  refine i_callN (As := []) (rest := [.ref q13, .int 4, .ref q1]) (n := 0) (host := "QueryHarbor") B h hA (c_X6_init l X q13  H.size) hl.1 kc_X6_init (List.mem_of_getElem? (i := 3) (by decide +kernel)) ki_X6 kn_X6_init rfl ⟨by decide +kernel, by decide +kernel, by decide +kernel⟩ rfl rfl rfl ⟨(Nat.le_of_ble_eq_true rfl), (Nat.le_of_ble_eq_true rfl)⟩ (Nat.le_of_ble_eq_true rfl) ⟨(Nat.le_of_ble_eq_true rfl), (Nat.le_of_ble_eq_true rfl)⟩ dX7_init_64 rfl (fun u14 H locs h => ?_)
  have h : HI X A s ((h0, .inr (7, [.ref t, .ref ca, .ref q1, .ref q2, .ref q3, .ref q4, .int 0])) :: (q1, .inl (X.2.1 2, 6, .inr (.inr (.inr (.inr (va_up (va_up (va_up (va_up (fun _ => none) (0 : Int32).toNatClampNeg (some q5)) (1 : Int32).toNatClampNeg (some q7)) (2 : Int32).toNatClampNeg (some q9)) (3 : Int32).toNatClampNeg (some q11))))))) :: (q2, .inl (X.2.1 0, 6, .inl (fun _ => 0))) :: (q3, .inl (X.2.1 0, 6, .inl (upd (upd (upd (upd (fun _ => 0) (0 : Int32).toNatClampNeg 10) (1 : Int32).toNatClampNeg 10) (2 : Int32).toNatClampNeg 10) (3 : Int32).toNatClampNeg 10))) :: (q4, .inl (X.2.1 0, 6, .inl (fun _ => 0))) :: (wX6 X q5 u6 ++ wX6 X q7 u8 ++ wX6 X q9 u10 ++ wX6 X q11 u12 ++ wX6 X q13 u14)) H locs := h
  refine i_pc (pc' := 67) (c' := 19) (s' := 339) rfl rfl rfl ?_
  refine i_fillR B (x := 4) 2 1 17 h rfl rfl rfl rfl (by decide) dX7_init_67 (fun H locs h => ?_)
  have h : HI X A s ((h0, .inr (7, [.ref t, .ref ca, .ref q1, .ref q2, .ref q3, .ref q4, .int 0])) :: (q1, .inl (X.2.1 2, 6, .inr (.inr (.inr (.inr (va_up (va_up (va_up (va_up (va_up (fun _ => none) (0 : Int32).toNatClampNeg (some q5)) (1 : Int32).toNatClampNeg (some q7)) (2 : Int32).toNatClampNeg (some q9)) (3 : Int32).toNatClampNeg (some q11)) (4 : Int32).toNatClampNeg (some q13))))))) :: (q2, .inl (X.2.1 0, 6, .inl (fun _ => 0))) :: (q3, .inl (X.2.1 0, 6, .inl (upd (upd (upd (upd (fun _ => 0) (0 : Int32).toNatClampNeg 10) (1 : Int32).toNatClampNeg 10) (2 : Int32).toNatClampNeg 10) (3 : Int32).toNatClampNeg 10))) :: (q4, .inl (X.2.1 0, 6, .inl (fun _ => 0))) :: (wX6 X q5 u6 ++ wX6 X q7 u8 ++ wX6 X q9 u10 ++ wX6 X q11 u12 ++ wX6 X q13 u14)) H locs := h
  refine i_pc (pc' := 68) (c' := 19) (s' := 339) rfl rfl rfl ?_
  refine lv_aload_n B.hx B.hb dX7_init_68 rfl (lv_at hl 1 rfl) ?_
  refine i_getf B h 0 (k := 4) (T := TX7) rfl rfl in_X7 (by decide) kf_X7_21 rfl dX7_init_69 ?_
  refine lv_iload_n B.hx B.hb dX7_init_72 rfl (lv_at hl 0 rfl) ?_
  refine lv_bipush (v := 10) B.hx B.hb dX7_init_73 (by decide) ?_
  refine i_fill B (x := 4) (v := 10) 3 h rfl (by decide) dX7_init_75 (fun H locs h => ?_)
  have h : HI X A s ((h0, .inr (7, [.ref t, .ref ca, .ref q1, .ref q2, .ref q3, .ref q4, .int 0])) :: (q1, .inl (X.2.1 2, 6, .inr (.inr (.inr (.inr (va_up (va_up (va_up (va_up (va_up (fun _ => none) (0 : Int32).toNatClampNeg (some q5)) (1 : Int32).toNatClampNeg (some q7)) (2 : Int32).toNatClampNeg (some q9)) (3 : Int32).toNatClampNeg (some q11)) (4 : Int32).toNatClampNeg (some q13))))))) :: (q2, .inl (X.2.1 0, 6, .inl (fun _ => 0))) :: (q3, .inl (X.2.1 0, 6, .inl (upd (upd (upd (upd (upd (fun _ => 0) (0 : Int32).toNatClampNeg 10) (1 : Int32).toNatClampNeg 10) (2 : Int32).toNatClampNeg 10) (3 : Int32).toNatClampNeg 10) (4 : Int32).toNatClampNeg 10))) :: (q4, .inl (X.2.1 0, 6, .inl (fun _ => 0))) :: (wX6 X q5 u6 ++ wX6 X q7 u8 ++ wX6 X q9 u10 ++ wX6 X q11 u12 ++ wX6 X q13 u14)) H locs := h
  refine lv_iinc (v := 5) (lv' := [(3, .int 5), (0, .ref h0), (1, .ref t), (2, .ref ca)]) B.hx B.hb dX7_init_76 hl (k := 0) rfl (by decide) (by decide) rfl (fun ls hl => ?_)
  refine lv_goto (tgt := 49) B.hx B.hb dX7_init_79 (by decide) ?_
  refine lv_iload_n B.hx B.hb dX7_init_49 rfl (lv_at hl 0 rfl) ?_
  refine lv_bipush (v := 6) B.hx B.hb dX7_init_50 (by decide) ?_
  refine lv_icmp_ge (tgt := 82) B.hx B.hb dX7_init_52 (by decide) (fun c9 => absurd c9 (by decide)) (fun _ => ?_)
  refine lv_aload_n B.hx B.hb dX7_init_55 rfl (lv_at hl 1 rfl) ?_
  refine i_getf B h 0 (k := 2) (T := TX7) rfl rfl in_X7 (by decide) kf_X7_11 rfl dX7_init_56 ?_
  refine lv_iload_n B.hx B.hb dX7_init_59 rfl (lv_at hl 0 rfl) ?_
  refine i_new (ci := 6) (fs := [.null, .null, .int 0]) B h hA rfl in_X6 tyX6 tyX6_ok (big_at 192 (by decide +kernel) (by decide +kernel)) (big_at 60 (by decide +kernel) (by decide +kernel)) ki_X6 (fun j hj => by rcases (show j = 0 ∨ j = 1 ∨ j = 2 by omega) with rfl | rfl | rfl <;> rfl) (Nat.le_of_ble_eq_true rfl) (Nat.le_of_ble_eq_true rfl) dX7_init_60 (fun q15 H h => ?_)
  refine lv_dup B.hx B.hb dX7_init_63 rfl ?_
  refine i_callN (As := []) (rest := [.ref q15, .int 5, .ref q1]) (n := 0) (host := "QueryHarbor") B h hA (c_X6_init l X q15  H.size) hl.1 kc_X6_init (List.mem_of_getElem? (i := 3) (by decide +kernel)) ki_X6 kn_X6_init rfl ⟨by decide +kernel, by decide +kernel, by decide +kernel⟩ rfl rfl rfl ⟨(Nat.le_of_ble_eq_true rfl), (Nat.le_of_ble_eq_true rfl)⟩ (Nat.le_of_ble_eq_true rfl) ⟨(Nat.le_of_ble_eq_true rfl), (Nat.le_of_ble_eq_true rfl)⟩ dX7_init_64 rfl (fun u16 H locs h => ?_)
  have h : HI X A s ((h0, .inr (7, [.ref t, .ref ca, .ref q1, .ref q2, .ref q3, .ref q4, .int 0])) :: (q1, .inl (X.2.1 2, 6, .inr (.inr (.inr (.inr (va_up (va_up (va_up (va_up (va_up (fun _ => none) (0 : Int32).toNatClampNeg (some q5)) (1 : Int32).toNatClampNeg (some q7)) (2 : Int32).toNatClampNeg (some q9)) (3 : Int32).toNatClampNeg (some q11)) (4 : Int32).toNatClampNeg (some q13))))))) :: (q2, .inl (X.2.1 0, 6, .inl (fun _ => 0))) :: (q3, .inl (X.2.1 0, 6, .inl (upd (upd (upd (upd (upd (fun _ => 0) (0 : Int32).toNatClampNeg 10) (1 : Int32).toNatClampNeg 10) (2 : Int32).toNatClampNeg 10) (3 : Int32).toNatClampNeg 10) (4 : Int32).toNatClampNeg 10))) :: (q4, .inl (X.2.1 0, 6, .inl (fun _ => 0))) :: (wX6 X q5 u6 ++ wX6 X q7 u8 ++ wX6 X q9 u10 ++ wX6 X q11 u12 ++ wX6 X q13 u14 ++ wX6 X q15 u16)) H locs := h
  refine i_pc (pc' := 67) (c' := 22) (s' := 402) rfl rfl rfl ?_
  refine i_fillR B (x := 5) 2 1 20 h rfl rfl rfl rfl (by decide) dX7_init_67 (fun H locs h => ?_)
  have h : HI X A s ((h0, .inr (7, [.ref t, .ref ca, .ref q1, .ref q2, .ref q3, .ref q4, .int 0])) :: (q1, .inl (X.2.1 2, 6, .inr (.inr (.inr (.inr (va_up (va_up (va_up (va_up (va_up (va_up (fun _ => none) (0 : Int32).toNatClampNeg (some q5)) (1 : Int32).toNatClampNeg (some q7)) (2 : Int32).toNatClampNeg (some q9)) (3 : Int32).toNatClampNeg (some q11)) (4 : Int32).toNatClampNeg (some q13)) (5 : Int32).toNatClampNeg (some q15))))))) :: (q2, .inl (X.2.1 0, 6, .inl (fun _ => 0))) :: (q3, .inl (X.2.1 0, 6, .inl (upd (upd (upd (upd (upd (fun _ => 0) (0 : Int32).toNatClampNeg 10) (1 : Int32).toNatClampNeg 10) (2 : Int32).toNatClampNeg 10) (3 : Int32).toNatClampNeg 10) (4 : Int32).toNatClampNeg 10))) :: (q4, .inl (X.2.1 0, 6, .inl (fun _ => 0))) :: (wX6 X q5 u6 ++ wX6 X q7 u8 ++ wX6 X q9 u10 ++ wX6 X q11 u12 ++ wX6 X q13 u14 ++ wX6 X q15 u16)) H locs := h
  refine i_pc (pc' := 68) (c' := 22) (s' := 402) rfl rfl rfl ?_
  refine lv_aload_n B.hx B.hb dX7_init_68 rfl (lv_at hl 1 rfl) ?_
  refine i_getf B h 0 (k := 4) (T := TX7) rfl rfl in_X7 (by decide) kf_X7_21 rfl dX7_init_69 ?_
  refine lv_iload_n B.hx B.hb dX7_init_72 rfl (lv_at hl 0 rfl) ?_
  refine lv_bipush (v := 10) B.hx B.hb dX7_init_73 (by decide) ?_
  refine i_fill B (x := 5) (v := 10) 3 h rfl (by decide) dX7_init_75 (fun H locs h => ?_)
  have h : HI X A s ((h0, .inr (7, [.ref t, .ref ca, .ref q1, .ref q2, .ref q3, .ref q4, .int 0])) :: (q1, .inl (X.2.1 2, 6, .inr (.inr (.inr (.inr (va_up (va_up (va_up (va_up (va_up (va_up (fun _ => none) (0 : Int32).toNatClampNeg (some q5)) (1 : Int32).toNatClampNeg (some q7)) (2 : Int32).toNatClampNeg (some q9)) (3 : Int32).toNatClampNeg (some q11)) (4 : Int32).toNatClampNeg (some q13)) (5 : Int32).toNatClampNeg (some q15))))))) :: (q2, .inl (X.2.1 0, 6, .inl (fun _ => 0))) :: (q3, .inl (X.2.1 0, 6, .inl (upd (upd (upd (upd (upd (upd (fun _ => 0) (0 : Int32).toNatClampNeg 10) (1 : Int32).toNatClampNeg 10) (2 : Int32).toNatClampNeg 10) (3 : Int32).toNatClampNeg 10) (4 : Int32).toNatClampNeg 10) (5 : Int32).toNatClampNeg 10))) :: (q4, .inl (X.2.1 0, 6, .inl (fun _ => 0))) :: (wX6 X q5 u6 ++ wX6 X q7 u8 ++ wX6 X q9 u10 ++ wX6 X q11 u12 ++ wX6 X q13 u14 ++ wX6 X q15 u16)) H locs := h
  refine lv_iinc (v := 6) (lv' := [(3, .int 6), (0, .ref h0), (1, .ref t), (2, .ref ca)]) B.hx B.hb dX7_init_76 hl (k := 0) rfl (by decide) (by decide) rfl (fun ls hl => ?_)
  refine lv_goto (tgt := 49) B.hx B.hb dX7_init_79 (by decide) ?_
  refine lv_iload_n B.hx B.hb dX7_init_49 rfl (lv_at hl 0 rfl) ?_
  refine lv_bipush (v := 6) B.hx B.hb dX7_init_50 (by decide) ?_
  refine lv_icmp_ge (tgt := 82) B.hx B.hb dX7_init_52 (by decide) (fun _ => ?_) (fun c9 => absurd (by decide) c9)
  have h := HI.nrmq (a := q1) 1 (fun j => some (if j = 0 then q5 else if j = 1 then q7 else if j = 2 then q9 else if j = 3 then q11 else if j = 4 then q13 else q15)) h rfl (fun j hj => by rcases (show j = 0 ∨ j = 1 ∨ j = 2 ∨ j = 3 ∨ j = 4 ∨ j = 5 by omega) with rfl | rfl | rfl | rfl | rfl | rfl <;> rfl)
  have h : HI X A s ((h0, .inr (7, [.ref t, .ref ca, .ref q1, .ref q2, .ref q3, .ref q4, .int 0])) :: (q1, .inl (X.2.1 2, 6, .inr (.inr (.inr (.inr (fun j => some (if j = 0 then q5 else if j = 1 then q7 else if j = 2 then q9 else if j = 3 then q11 else if j = 4 then q13 else q15))))))) :: (q2, .inl (X.2.1 0, 6, .inl (fun _ => 0))) :: (q3, .inl (X.2.1 0, 6, .inl (upd (upd (upd (upd (upd (upd (fun _ => 0) (0 : Int32).toNatClampNeg 10) (1 : Int32).toNatClampNeg 10) (2 : Int32).toNatClampNeg 10) (3 : Int32).toNatClampNeg 10) (4 : Int32).toNatClampNeg 10) (5 : Int32).toNatClampNeg 10))) :: (q4, .inl (X.2.1 0, 6, .inl (fun _ => 0))) :: (wX6 X q5 u6 ++ wX6 X q7 u8 ++ wX6 X q9 u10 ++ wX6 X q11 u12 ++ wX6 X q13 u14 ++ wX6 X q15 u16)) H locs := h
  have h := HI.nrm (a := q3) 3 (fun _ => 10) h rfl (by decide)
  have h : HI X A s ((h0, .inr (7, [.ref t, .ref ca, .ref q1, .ref q2, .ref q3, .ref q4, .int 0])) :: (q1, .inl (X.2.1 2, 6, .inr (.inr (.inr (.inr (fun j => some (if j = 0 then q5 else if j = 1 then q7 else if j = 2 then q9 else if j = 3 then q11 else if j = 4 then q13 else q15))))))) :: (q2, .inl (X.2.1 0, 6, .inl (fun _ => 0))) :: (q3, .inl (X.2.1 0, 6, .inl (fun _ => 10))) :: (q4, .inl (X.2.1 0, 6, .inl (fun _ => 0))) :: (wX6 X q5 u6 ++ wX6 X q7 u8 ++ wX6 X q9 u10 ++ wX6 X q11 u12 ++ wX6 X q13 u14 ++ wX6 X q15 u16)) H locs := h
  have h : HI X A s ((h0, .inr (7, [.ref t, .ref ca, .ref q1, .ref q2, .ref q3, .ref q4, .int 0])) :: (q2, .inl (X.2.1 0, 6, .inl (fun _ => 0))) :: (q3, .inl (X.2.1 0, 6, .inl (fun _ => 10))) :: (q4, .inl (X.2.1 0, 6, .inl (fun _ => 0))) :: (q1, .inl (X.2.1 2, 6, .inr (.inr (.inr (.inr (fun j => some (if j = 0 then q5 else if j = 1 then q7 else if j = 2 then q9 else if j = 3 then q11 else if j = 4 then q13 else q15))))))) :: (wX6 X q5 u6 ++ wX6 X q7 u8 ++ wX6 X q9 u10 ++ wX6 X q11 u12 ++ wX6 X q13 u14 ++ wX6 X q15 u16)) H locs := h.sub [0, 2, 3, 4, 1, 5, 6, 7, 8, 9, 10, 11, 12, 13, 14, 15, 16, 17, 18, 19, 20, 21, 22] (by decide) rfl rfl
  exact i_vret B hr hlk h (fun i => (if i < 8 then (if i < 3 then (if i < 2 then q2 else q3) else (if i < 4 then q4 else (if i < 5 then q1 else (if i = 5 then q5 else u6 (i - 5))))) else (if i < 14 then (if i < 11 then (if i = 8 then q7 else u8 (i - 8)) else (if i = 11 then q9 else u10 (i - 11))) else (if i < 17 then (if i = 14 then q11 else u12 (i - 14)) else (if i < 20 then (if i = 17 then q13 else u14 (i - 17)) else (if i = 20 then q15 else u16 (i - 20))))))) rfl dX7_init_82
abbrev rmi_X0 : Room := { frames := 2, cells := 14, slots := 321, locals := 42 }
set_option maxHeartbeats 4000000 in
set_option maxRecDepth 100000 in
theorem c_X0_init (l : Launch) (X : XT) (h0 : Nat) (sz : Nat) : Met l yX0_init (wbig yX0_init cX0_init 2 none) rmi_X0 (va_Pc [.ref h0] (IP X [(h0, .inr (0, [.null, .null, .null, .null, .null, .int 0, .int 0, .int 0, .int 0, .int 0, .int 0, .int 0, .int 0]))] sz)) (QN X [(h0, .inr (0, [.null, .null, .null, .null, .null, .int 0, .int 0, .int 0, .int 0, .int 0, .int 0, .int 0, .int 0]))] sz (wX0 X h0)) 14 321 (va_A [(h0, .inr (0, [.null, .null, .null, .null, .null, .int 0, .int 0, .int 0, .int 0, .int 0, .int 0, .int 0, .int 0]))] sz) := by
  refine init_go (Bp := wX0 X h0) (by decide +kernel) (Nat.le_of_ble_eq_true rfl) ?_
  intro p e s m args below meth c A hA B hr hlk hin h ls hl
  have hl : lv_has ls 2 [(0, .ref h0)] := hl
  refine lv_aload_n B.hx B.hb dX0_init_0 rfl (lv_at hl 0 rfl) ?_
  refine i_obj B hl.1 (big_at 307 (by decide +kernel) (by decide +kernel)) (Nat.le_of_ble_eq_true rfl) (Nat.le_of_ble_eq_true rfl) dX0_init_1 ?_
  refine lv_aload_n B.hx B.hb dX0_init_4 rfl (lv_at hl 0 rfl) ?_
  refine lv_iconst (v := 3) B.hx B.hb dX0_init_5 (by decide) ?_
  refine i_newq B h hA 2 rfl (big_at 308 (by decide +kernel) (by decide +kernel)) B.hN.2.2 3 (by decide +kernel) (by decide +kernel) (Nat.le_of_ble_eq_true rfl) (Nat.le_of_ble_eq_true rfl) (Nat.le_of_ble_eq_true rfl) dX0_init_6 (fun q1 H h => ?_)
  have h : HI X A s ([(h0, .inr (0, [.null, .null, .null, .null, .null, .int 0, .int 0, .int 0, .int 0, .int 0, .int 0, .int 0, .int 0])), (q1, .inl (X.2.1 2, 3, .inr (.inr (.inr (.inr (fun _ => none))))))]) H [] := h
  refine i_putF (ty := .array (.object "QueryHarbor$Rows")) (k := 0) (T := TX0) (v := .ref q1) B hin h rfl in_X0 tyX0 tyX0_ok nmX0 (by decide) kf_X0_11 rfl rfl (by decide +kernel) rfl rfl (Nat.le_of_ble_eq_true rfl) dX0_init_9 (fun H locs h => ?_)
  have h : HI X A s ([(h0, .inr (0, [.ref q1, .null, .null, .null, .null, .int 0, .int 0, .int 0, .int 0, .int 0, .int 0, .int 0, .int 0])), (q1, .inl (X.2.1 2, 3, .inr (.inr (.inr (.inr (fun _ => none))))))]) H locs := h
  refine i_pc (pc' := 12) (c' := 1) (s' := 3) rfl rfl rfl ?_
  refine lv_aload_n B.hx B.hb dX0_init_12 rfl (lv_at hl 0 rfl) ?_
  refine lv_bipush (v := 120) B.hx B.hb dX0_init_13 (by decide) ?_
  refine i_newi B h hA 120 (by decide +kernel) (by decide +kernel) (Nat.le_of_ble_eq_true rfl) (Nat.le_of_ble_eq_true rfl) (Nat.le_of_ble_eq_true rfl) dX0_init_15 (fun q2 H h => ?_)
  have h : HI X A s ([(h0, .inr (0, [.ref q1, .null, .null, .null, .null, .int 0, .int 0, .int 0, .int 0, .int 0, .int 0, .int 0, .int 0])), (q1, .inl (X.2.1 2, 3, .inr (.inr (.inr (.inr (fun _ => none)))))), (q2, .inl (X.2.1 0, 120, .inl (fun _ => 0)))]) H locs := h
  refine i_putF (ty := .array (.int)) (k := 1) (T := TX0) (v := .ref q2) B hin h rfl in_X0 tyX0 tyX0_ok nmX0 (by decide) kf_X0_17 rfl rfl (by decide +kernel) rfl rfl (Nat.le_of_ble_eq_true rfl) dX0_init_17 (fun H locs h => ?_)
  have h : HI X A s ([(h0, .inr (0, [.ref q1, .ref q2, .null, .null, .null, .int 0, .int 0, .int 0, .int 0, .int 0, .int 0, .int 0, .int 0])), (q1, .inl (X.2.1 2, 3, .inr (.inr (.inr (.inr (fun _ => none)))))), (q2, .inl (X.2.1 0, 120, .inl (fun _ => 0)))]) H locs := h
  refine i_pc (pc' := 20) (c' := 2) (s' := 123) rfl rfl rfl ?_
  refine lv_aload_n B.hx B.hb dX0_init_20 rfl (lv_at hl 0 rfl) ?_
  refine lv_iconst (v := 3) B.hx B.hb dX0_init_21 (by decide) ?_
  refine i_newi B h hA 3 (by decide +kernel) (by decide +kernel) (Nat.le_of_ble_eq_true rfl) (Nat.le_of_ble_eq_true rfl) (Nat.le_of_ble_eq_true rfl) dX0_init_22 (fun q3 H h => ?_)
  have h : HI X A s ([(h0, .inr (0, [.ref q1, .ref q2, .null, .null, .null, .int 0, .int 0, .int 0, .int 0, .int 0, .int 0, .int 0, .int 0])), (q1, .inl (X.2.1 2, 3, .inr (.inr (.inr (.inr (fun _ => none)))))), (q2, .inl (X.2.1 0, 120, .inl (fun _ => 0))), (q3, .inl (X.2.1 0, 3, .inl (fun _ => 0)))]) H locs := h
  refine i_putF (ty := .array (.int)) (k := 2) (T := TX0) (v := .ref q3) B hin h rfl in_X0 tyX0 tyX0_ok nmX0 (by decide) kf_X0_21 rfl rfl (by decide +kernel) rfl rfl (Nat.le_of_ble_eq_true rfl) dX0_init_24 (fun H locs h => ?_)
  have h : HI X A s ([(h0, .inr (0, [.ref q1, .ref q2, .ref q3, .null, .null, .int 0, .int 0, .int 0, .int 0, .int 0, .int 0, .int 0, .int 0])), (q1, .inl (X.2.1 2, 3, .inr (.inr (.inr (.inr (fun _ => none)))))), (q2, .inl (X.2.1 0, 120, .inl (fun _ => 0))), (q3, .inl (X.2.1 0, 3, .inl (fun _ => 0)))]) H locs := h
  refine i_pc (pc' := 27) (c' := 3) (s' := 126) rfl rfl rfl ?_
  refine lv_aload_n B.hx B.hb dX0_init_27 rfl (lv_at hl 0 rfl) ?_
  refine lv_iconst (v := 3) B.hx B.hb dX0_init_28 (by decide) ?_
  refine i_newi B h hA 3 (by decide +kernel) (by decide +kernel) (Nat.le_of_ble_eq_true rfl) (Nat.le_of_ble_eq_true rfl) (Nat.le_of_ble_eq_true rfl) dX0_init_29 (fun q4 H h => ?_)
  have h : HI X A s ([(h0, .inr (0, [.ref q1, .ref q2, .ref q3, .null, .null, .int 0, .int 0, .int 0, .int 0, .int 0, .int 0, .int 0, .int 0])), (q1, .inl (X.2.1 2, 3, .inr (.inr (.inr (.inr (fun _ => none)))))), (q2, .inl (X.2.1 0, 120, .inl (fun _ => 0))), (q3, .inl (X.2.1 0, 3, .inl (fun _ => 0))), (q4, .inl (X.2.1 0, 3, .inl (fun _ => 0)))]) H locs := h
  refine i_putF (ty := .array (.int)) (k := 3) (T := TX0) (v := .ref q4) B hin h rfl in_X0 tyX0 tyX0_ok nmX0 (by decide) kf_X0_24 rfl rfl (by decide +kernel) rfl rfl (Nat.le_of_ble_eq_true rfl) dX0_init_31 (fun H locs h => ?_)
  have h : HI X A s ([(h0, .inr (0, [.ref q1, .ref q2, .ref q3, .ref q4, .null, .int 0, .int 0, .int 0, .int 0, .int 0, .int 0, .int 0, .int 0])), (q1, .inl (X.2.1 2, 3, .inr (.inr (.inr (.inr (fun _ => none)))))), (q2, .inl (X.2.1 0, 120, .inl (fun _ => 0))), (q3, .inl (X.2.1 0, 3, .inl (fun _ => 0))), (q4, .inl (X.2.1 0, 3, .inl (fun _ => 0)))]) H locs := h
  refine i_pc (pc' := 34) (c' := 4) (s' := 129) rfl rfl rfl ?_
  refine lv_aload_n B.hx B.hb dX0_init_34 rfl (lv_at hl 0 rfl) ?_
  refine lv_iconst (v := 3) B.hx B.hb dX0_init_35 (by decide) ?_
  refine i_newi B h hA 3 (by decide +kernel) (by decide +kernel) (Nat.le_of_ble_eq_true rfl) (Nat.le_of_ble_eq_true rfl) (Nat.le_of_ble_eq_true rfl) dX0_init_36 (fun q5 H h => ?_)
  have h : HI X A s ([(h0, .inr (0, [.ref q1, .ref q2, .ref q3, .ref q4, .null, .int 0, .int 0, .int 0, .int 0, .int 0, .int 0, .int 0, .int 0])), (q1, .inl (X.2.1 2, 3, .inr (.inr (.inr (.inr (fun _ => none)))))), (q2, .inl (X.2.1 0, 120, .inl (fun _ => 0))), (q3, .inl (X.2.1 0, 3, .inl (fun _ => 0))), (q4, .inl (X.2.1 0, 3, .inl (fun _ => 0))), (q5, .inl (X.2.1 0, 3, .inl (fun _ => 0)))]) H locs := h
  refine i_putF (ty := .array (.int)) (k := 4) (T := TX0) (v := .ref q5) B hin h rfl in_X0 tyX0 tyX0_ok nmX0 (by decide) kf_X0_27 rfl rfl (by decide +kernel) rfl rfl (Nat.le_of_ble_eq_true rfl) dX0_init_38 (fun H locs h => ?_)
  have h : HI X A s ([(h0, .inr (0, [.ref q1, .ref q2, .ref q3, .ref q4, .ref q5, .int 0, .int 0, .int 0, .int 0, .int 0, .int 0, .int 0, .int 0])), (q1, .inl (X.2.1 2, 3, .inr (.inr (.inr (.inr (fun _ => none)))))), (q2, .inl (X.2.1 0, 120, .inl (fun _ => 0))), (q3, .inl (X.2.1 0, 3, .inl (fun _ => 0))), (q4, .inl (X.2.1 0, 3, .inl (fun _ => 0))), (q5, .inl (X.2.1 0, 3, .inl (fun _ => 0)))]) H locs := h
  refine i_pc (pc' := 41) (c' := 5) (s' := 132) rfl rfl rfl ?_
  refine lv_aload_n B.hx B.hb dX0_init_41 rfl (lv_at hl 0 rfl) ?_
  refine lv_iconst (v := (-1)) B.hx B.hb dX0_init_42 (by decide) ?_
  refine i_put (ty := .int) (k := 8) (T := TX0) (v := .int (-1)) B h rfl in_X0 tyX0 tyX0_ok nmX0 (by decide) kf_X0_30 rfl (by decide +kernel) rfl rfl (Nat.le_of_ble_eq_true rfl) dX0_init_43 (fun H locs h => ?_)
  have h : HI X A s ([(h0, .inr (0, [.ref q1, .ref q2, .ref q3, .ref q4, .ref q5, .int 0, .int 0, .int 0, .int (-1), .int 0, .int 0, .int 0, .int 0])), (q1, .inl (X.2.1 2, 3, .inr (.inr (.inr (.inr (fun _ => none)))))), (q2, .inl (X.2.1 0, 120, .inl (fun _ => 0))), (q3, .inl (X.2.1 0, 3, .inl (fun _ => 0))), (q4, .inl (X.2.1 0, 3, .inl (fun _ => 0))), (q5, .inl (X.2.1 0, 3, .inl (fun _ => 0)))]) H locs := h
  refine i_pc (pc' := 46) (c' := 5) (s' := 132) rfl rfl rfl ?_
  refine lv_iconst (v := 0) B.hx B.hb dX0_init_46 (by decide) ?_
  refine lv_istore_n (lv' := [(1, .int 0), (0, .ref h0)]) B.hx B.hb dX0_init_47 rfl hl (by decide) rfl (fun ls hl => ?_)
  refine lv_iload_n B.hx B.hb dX0_init_48 rfl (lv_at hl 0 rfl) ?_
  refine lv_iconst (v := 3) B.hx B.hb dX0_init_49 (by decide) ?_
  refine lv_icmp_ge (tgt := 72) B.hx B.hb dX0_init_50 (by decide) (fun c9 => absurd c9 (by decide)) (fun _ => ?_)
  refine lv_aload_n B.hx B.hb dX0_init_53 rfl (lv_at hl 1 rfl) ?_
  refine i_getf B h 0 (k := 0) (T := TX0) rfl rfl in_X0 (by decide) kf_X0_11 rfl dX0_init_54 ?_
  refine lv_iload_n B.hx B.hb dX0_init_57 rfl (lv_at hl 0 rfl) ?_
  refine i_new (ci := 6) (fs := [.null, .null, .int 0]) B h hA rfl in_X6 tyX6 tyX6_ok (big_at 308 (by decide +kernel) (by decide +kernel)) (big_at 60 (by decide +kernel) (by decide +kernel)) ki_X6 (fun j hj => by rcases (show j = 0 ∨ j = 1 ∨ j = 2 by omega) with rfl | rfl | rfl <;> rfl) (Nat.le_of_ble_eq_true rfl) (Nat.le_of_ble_eq_true rfl) dX0_init_58 (fun q6 H h => ?_)
  refine lv_dup B.hx B.hb dX0_init_61 rfl ?_
  refine i_callN (As := []) (rest := [.ref q6, .int 0, .ref q1]) (n := 0) (host := "QueryHarbor") B h hA (c_X6_init l X q6  H.size) hl.1 kc_X6_init (List.mem_of_getElem? (i := 5) (by decide +kernel)) ki_X6 kn_X6_init rfl ⟨by decide +kernel, by decide +kernel, by decide +kernel⟩ rfl rfl rfl ⟨(Nat.le_of_ble_eq_true rfl), (Nat.le_of_ble_eq_true rfl)⟩ (Nat.le_of_ble_eq_true rfl) ⟨(Nat.le_of_ble_eq_true rfl), (Nat.le_of_ble_eq_true rfl)⟩ dX0_init_62 rfl (fun u7 H locs h => ?_)
  have h : HI X A s ((h0, .inr (0, [.ref q1, .ref q2, .ref q3, .ref q4, .ref q5, .int 0, .int 0, .int 0, .int (-1), .int 0, .int 0, .int 0, .int 0])) :: (q1, .inl (X.2.1 2, 3, .inr (.inr (.inr (.inr (fun _ => none)))))) :: (q2, .inl (X.2.1 0, 120, .inl (fun _ => 0))) :: (q3, .inl (X.2.1 0, 3, .inl (fun _ => 0))) :: (q4, .inl (X.2.1 0, 3, .inl (fun _ => 0))) :: (q5, .inl (X.2.1 0, 3, .inl (fun _ => 0))) :: (wX6 X q6 u7)) H locs := h
  refine i_pc (pc' := 65) (c' := 8) (s' := 195) rfl rfl rfl ?_
  refine i_fillR B (x := 0) 2 1 6 h rfl rfl rfl rfl (by decide) dX0_init_65 (fun H locs h => ?_)
  have h : HI X A s ((h0, .inr (0, [.ref q1, .ref q2, .ref q3, .ref q4, .ref q5, .int 0, .int 0, .int 0, .int (-1), .int 0, .int 0, .int 0, .int 0])) :: (q1, .inl (X.2.1 2, 3, .inr (.inr (.inr (.inr (va_up (fun _ => none) (0 : Int32).toNatClampNeg (some q6))))))) :: (q2, .inl (X.2.1 0, 120, .inl (fun _ => 0))) :: (q3, .inl (X.2.1 0, 3, .inl (fun _ => 0))) :: (q4, .inl (X.2.1 0, 3, .inl (fun _ => 0))) :: (q5, .inl (X.2.1 0, 3, .inl (fun _ => 0))) :: (wX6 X q6 u7)) H locs := h
  refine i_pc (pc' := 66) (c' := 8) (s' := 195) rfl rfl rfl ?_
  refine lv_iinc (v := 1) (lv' := [(1, .int 1), (0, .ref h0)]) B.hx B.hb dX0_init_66 hl (k := 0) rfl (by decide) (by decide) rfl (fun ls hl => ?_)
  refine lv_goto (tgt := 48) B.hx B.hb dX0_init_69 (by decide) ?_
  refine lv_iload_n B.hx B.hb dX0_init_48 rfl (lv_at hl 0 rfl) ?_
  refine lv_iconst (v := 3) B.hx B.hb dX0_init_49 (by decide) ?_
  refine lv_icmp_ge (tgt := 72) B.hx B.hb dX0_init_50 (by decide) (fun c9 => absurd c9 (by decide)) (fun _ => ?_)
  refine lv_aload_n B.hx B.hb dX0_init_53 rfl (lv_at hl 1 rfl) ?_
  refine i_getf B h 0 (k := 0) (T := TX0) rfl rfl in_X0 (by decide) kf_X0_11 rfl dX0_init_54 ?_
  refine lv_iload_n B.hx B.hb dX0_init_57 rfl (lv_at hl 0 rfl) ?_
  refine i_new (ci := 6) (fs := [.null, .null, .int 0]) B h hA rfl in_X6 tyX6 tyX6_ok (big_at 308 (by decide +kernel) (by decide +kernel)) (big_at 60 (by decide +kernel) (by decide +kernel)) ki_X6 (fun j hj => by rcases (show j = 0 ∨ j = 1 ∨ j = 2 by omega) with rfl | rfl | rfl <;> rfl) (Nat.le_of_ble_eq_true rfl) (Nat.le_of_ble_eq_true rfl) dX0_init_58 (fun q8 H h => ?_)
  refine lv_dup B.hx B.hb dX0_init_61 rfl ?_
  refine i_callN (As := []) (rest := [.ref q8, .int 1, .ref q1]) (n := 0) (host := "QueryHarbor") B h hA (c_X6_init l X q8  H.size) hl.1 kc_X6_init (List.mem_of_getElem? (i := 5) (by decide +kernel)) ki_X6 kn_X6_init rfl ⟨by decide +kernel, by decide +kernel, by decide +kernel⟩ rfl rfl rfl ⟨(Nat.le_of_ble_eq_true rfl), (Nat.le_of_ble_eq_true rfl)⟩ (Nat.le_of_ble_eq_true rfl) ⟨(Nat.le_of_ble_eq_true rfl), (Nat.le_of_ble_eq_true rfl)⟩ dX0_init_62 rfl (fun u9 H locs h => ?_)
  have h : HI X A s ((h0, .inr (0, [.ref q1, .ref q2, .ref q3, .ref q4, .ref q5, .int 0, .int 0, .int 0, .int (-1), .int 0, .int 0, .int 0, .int 0])) :: (q1, .inl (X.2.1 2, 3, .inr (.inr (.inr (.inr (va_up (fun _ => none) (0 : Int32).toNatClampNeg (some q6))))))) :: (q2, .inl (X.2.1 0, 120, .inl (fun _ => 0))) :: (q3, .inl (X.2.1 0, 3, .inl (fun _ => 0))) :: (q4, .inl (X.2.1 0, 3, .inl (fun _ => 0))) :: (q5, .inl (X.2.1 0, 3, .inl (fun _ => 0))) :: (wX6 X q6 u7 ++ wX6 X q8 u9)) H locs := h
  refine i_pc (pc' := 65) (c' := 11) (s' := 258) rfl rfl rfl ?_
  refine i_fillR B (x := 1) 2 1 9 h rfl rfl rfl rfl (by decide) dX0_init_65 (fun H locs h => ?_)
  have h : HI X A s ((h0, .inr (0, [.ref q1, .ref q2, .ref q3, .ref q4, .ref q5, .int 0, .int 0, .int 0, .int (-1), .int 0, .int 0, .int 0, .int 0])) :: (q1, .inl (X.2.1 2, 3, .inr (.inr (.inr (.inr (va_up (va_up (fun _ => none) (0 : Int32).toNatClampNeg (some q6)) (1 : Int32).toNatClampNeg (some q8))))))) :: (q2, .inl (X.2.1 0, 120, .inl (fun _ => 0))) :: (q3, .inl (X.2.1 0, 3, .inl (fun _ => 0))) :: (q4, .inl (X.2.1 0, 3, .inl (fun _ => 0))) :: (q5, .inl (X.2.1 0, 3, .inl (fun _ => 0))) :: (wX6 X q6 u7 ++ wX6 X q8 u9)) H locs := h
  refine i_pc (pc' := 66) (c' := 11) (s' := 258) rfl rfl rfl ?_
  refine lv_iinc (v := 2) (lv' := [(1, .int 2), (0, .ref h0)]) B.hx B.hb dX0_init_66 hl (k := 0) rfl (by decide) (by decide) rfl (fun ls hl => ?_)
  refine lv_goto (tgt := 48) B.hx B.hb dX0_init_69 (by decide) ?_
  refine lv_iload_n B.hx B.hb dX0_init_48 rfl (lv_at hl 0 rfl) ?_
  refine lv_iconst (v := 3) B.hx B.hb dX0_init_49 (by decide) ?_
  refine lv_icmp_ge (tgt := 72) B.hx B.hb dX0_init_50 (by decide) (fun c9 => absurd c9 (by decide)) (fun _ => ?_)
  refine lv_aload_n B.hx B.hb dX0_init_53 rfl (lv_at hl 1 rfl) ?_
  refine i_getf B h 0 (k := 0) (T := TX0) rfl rfl in_X0 (by decide) kf_X0_11 rfl dX0_init_54 ?_
  refine lv_iload_n B.hx B.hb dX0_init_57 rfl (lv_at hl 0 rfl) ?_
  refine i_new (ci := 6) (fs := [.null, .null, .int 0]) B h hA rfl in_X6 tyX6 tyX6_ok (big_at 308 (by decide +kernel) (by decide +kernel)) (big_at 60 (by decide +kernel) (by decide +kernel)) ki_X6 (fun j hj => by rcases (show j = 0 ∨ j = 1 ∨ j = 2 by omega) with rfl | rfl | rfl <;> rfl) (Nat.le_of_ble_eq_true rfl) (Nat.le_of_ble_eq_true rfl) dX0_init_58 (fun q10 H h => ?_)
  refine lv_dup B.hx B.hb dX0_init_61 rfl ?_
  refine i_callN (As := []) (rest := [.ref q10, .int 2, .ref q1]) (n := 0) (host := "QueryHarbor") B h hA (c_X6_init l X q10  H.size) hl.1 kc_X6_init (List.mem_of_getElem? (i := 5) (by decide +kernel)) ki_X6 kn_X6_init rfl ⟨by decide +kernel, by decide +kernel, by decide +kernel⟩ rfl rfl rfl ⟨(Nat.le_of_ble_eq_true rfl), (Nat.le_of_ble_eq_true rfl)⟩ (Nat.le_of_ble_eq_true rfl) ⟨(Nat.le_of_ble_eq_true rfl), (Nat.le_of_ble_eq_true rfl)⟩ dX0_init_62 rfl (fun u11 H locs h => ?_)
  have h : HI X A s ((h0, .inr (0, [.ref q1, .ref q2, .ref q3, .ref q4, .ref q5, .int 0, .int 0, .int 0, .int (-1), .int 0, .int 0, .int 0, .int 0])) :: (q1, .inl (X.2.1 2, 3, .inr (.inr (.inr (.inr (va_up (va_up (fun _ => none) (0 : Int32).toNatClampNeg (some q6)) (1 : Int32).toNatClampNeg (some q8))))))) :: (q2, .inl (X.2.1 0, 120, .inl (fun _ => 0))) :: (q3, .inl (X.2.1 0, 3, .inl (fun _ => 0))) :: (q4, .inl (X.2.1 0, 3, .inl (fun _ => 0))) :: (q5, .inl (X.2.1 0, 3, .inl (fun _ => 0))) :: (wX6 X q6 u7 ++ wX6 X q8 u9 ++ wX6 X q10 u11)) H locs := h
  refine i_pc (pc' := 65) (c' := 14) (s' := 321) rfl rfl rfl ?_
  refine i_fillR B (x := 2) 2 1 12 h rfl rfl rfl rfl (by decide) dX0_init_65 (fun H locs h => ?_)
  have h : HI X A s ((h0, .inr (0, [.ref q1, .ref q2, .ref q3, .ref q4, .ref q5, .int 0, .int 0, .int 0, .int (-1), .int 0, .int 0, .int 0, .int 0])) :: (q1, .inl (X.2.1 2, 3, .inr (.inr (.inr (.inr (va_up (va_up (va_up (fun _ => none) (0 : Int32).toNatClampNeg (some q6)) (1 : Int32).toNatClampNeg (some q8)) (2 : Int32).toNatClampNeg (some q10))))))) :: (q2, .inl (X.2.1 0, 120, .inl (fun _ => 0))) :: (q3, .inl (X.2.1 0, 3, .inl (fun _ => 0))) :: (q4, .inl (X.2.1 0, 3, .inl (fun _ => 0))) :: (q5, .inl (X.2.1 0, 3, .inl (fun _ => 0))) :: (wX6 X q6 u7 ++ wX6 X q8 u9 ++ wX6 X q10 u11)) H locs := h
  refine i_pc (pc' := 66) (c' := 14) (s' := 321) rfl rfl rfl ?_
  refine lv_iinc (v := 3) (lv' := [(1, .int 3), (0, .ref h0)]) B.hx B.hb dX0_init_66 hl (k := 0) rfl (by decide) (by decide) rfl (fun ls hl => ?_)
  refine lv_goto (tgt := 48) B.hx B.hb dX0_init_69 (by decide) ?_
  refine lv_iload_n B.hx B.hb dX0_init_48 rfl (lv_at hl 0 rfl) ?_
  refine lv_iconst (v := 3) B.hx B.hb dX0_init_49 (by decide) ?_
  refine lv_icmp_ge (tgt := 72) B.hx B.hb dX0_init_50 (by decide) (fun _ => ?_) (fun c9 => absurd (by decide) c9)
  have h := HI.nrmq (a := q1) 1 (fun j => some (if j = 0 then q6 else if j = 1 then q8 else q10)) h rfl (fun j hj => by rcases (show j = 0 ∨ j = 1 ∨ j = 2 by omega) with rfl | rfl | rfl <;> rfl)
  have h : HI X A s ((h0, .inr (0, [.ref q1, .ref q2, .ref q3, .ref q4, .ref q5, .int 0, .int 0, .int 0, .int (-1), .int 0, .int 0, .int 0, .int 0])) :: (q1, .inl (X.2.1 2, 3, .inr (.inr (.inr (.inr (fun j => some (if j = 0 then q6 else if j = 1 then q8 else q10))))))) :: (q2, .inl (X.2.1 0, 120, .inl (fun _ => 0))) :: (q3, .inl (X.2.1 0, 3, .inl (fun _ => 0))) :: (q4, .inl (X.2.1 0, 3, .inl (fun _ => 0))) :: (q5, .inl (X.2.1 0, 3, .inl (fun _ => 0))) :: (wX6 X q6 u7 ++ wX6 X q8 u9 ++ wX6 X q10 u11)) H locs := h
  have h : HI X A s ((h0, .inr (0, [.ref q1, .ref q2, .ref q3, .ref q4, .ref q5, .int 0, .int 0, .int 0, .int (-1), .int 0, .int 0, .int 0, .int 0])) :: (q2, .inl (X.2.1 0, 120, .inl (fun _ => 0))) :: (q3, .inl (X.2.1 0, 3, .inl (fun _ => 0))) :: (q4, .inl (X.2.1 0, 3, .inl (fun _ => 0))) :: (q5, .inl (X.2.1 0, 3, .inl (fun _ => 0))) :: (q1, .inl (X.2.1 2, 3, .inr (.inr (.inr (.inr (fun j => some (if j = 0 then q6 else if j = 1 then q8 else q10))))))) :: (wX6 X q6 u7 ++ wX6 X q8 u9 ++ wX6 X q10 u11)) H locs := h.sub [0, 2, 3, 4, 5, 1, 6, 7, 8, 9, 10, 11, 12, 13, 14] (by decide) rfl rfl
  exact i_vret B hr hlk h (fun i => (if i < 5 then (if i < 3 then (if i < 2 then q2 else q3) else (if i < 4 then q4 else q5)) else (if i < 9 then (if i < 6 then q1 else (if i = 6 then q6 else u7 (i - 6))) else (if i < 12 then (if i = 9 then q8 else u9 (i - 9)) else (if i = 12 then q10 else u11 (i - 12)))))) rfl dX0_init_72
abbrev rmi_X1 : Room := { frames := 1, cells := 1, slots := 12, locals := 22 }
set_option maxHeartbeats 4000000 in
set_option maxRecDepth 100000 in
theorem c_X1_init (l : Launch) (X : XT) (h0 st so ca dr an : Nat) (sz : Nat) : Met l yX1_init (wbig yX1_init cX1_init 6 none) rmi_X1 (va_Pc [.ref h0, .ref st, .ref so, .ref ca, .ref dr, .ref an] (IP X [(h0, .inr (1, [.null, .null, .null, .null, .null, .null, .int 0, .int 0, .int 0, .int 0, .int 0]))] sz)) (QN X [(h0, .inr (1, [.null, .null, .null, .null, .null, .null, .int 0, .int 0, .int 0, .int 0, .int 0]))] sz (wX1 X st so ca dr an h0)) 1 12 (va_A [(h0, .inr (1, [.null, .null, .null, .null, .null, .null, .int 0, .int 0, .int 0, .int 0, .int 0]))] sz) := by
  refine init_go (Bp := wX1 X st so ca dr an h0) (by decide +kernel) (Nat.le_of_ble_eq_true rfl) ?_
  intro p e s m args below meth c A hA B hr hlk hin h ls hl
  have hl : lv_has ls 6 [(0, .ref h0), (1, .ref st), (2, .ref so), (3, .ref ca), (4, .ref dr), (5, .ref an)] := hl
  refine lv_aload_n B.hx B.hb dX1_init_0 rfl (lv_at hl 0 rfl) ?_
  refine i_obj B hl.1 (big_at 374 (by decide +kernel) (by decide +kernel)) (Nat.le_of_ble_eq_true rfl) (Nat.le_of_ble_eq_true rfl) dX1_init_1 ?_
  refine lv_aload_n B.hx B.hb dX1_init_4 rfl (lv_at hl 0 rfl) ?_
  refine lv_bipush (v := 12) B.hx B.hb dX1_init_5 (by decide) ?_
  refine i_newi B h hA 12 (by decide +kernel) (by decide +kernel) (Nat.le_of_ble_eq_true rfl) (Nat.le_of_ble_eq_true rfl) (Nat.le_of_ble_eq_true rfl) dX1_init_7 (fun q1 H h => ?_)
  have h : HI X A s ([(h0, .inr (1, [.null, .null, .null, .null, .null, .null, .int 0, .int 0, .int 0, .int 0, .int 0])), (q1, .inl (X.2.1 0, 12, .inl (fun _ => 0)))]) H [] := h
  refine i_putF (ty := .array (.int)) (k := 5) (T := TX1) (v := .ref q1) B hin h rfl in_X1 tyX1 tyX1_ok nmX1 (by decide) kf_X1_9 rfl rfl (by decide +kernel) rfl rfl (Nat.le_of_ble_eq_true rfl) dX1_init_9 (fun H locs h => ?_)
  have h : HI X A s ([(h0, .inr (1, [.null, .null, .null, .null, .null, .ref q1, .int 0, .int 0, .int 0, .int 0, .int 0])), (q1, .inl (X.2.1 0, 12, .inl (fun _ => 0)))]) H locs := h
  refine i_pc (pc' := 12) (c' := 1) (s' := 12) rfl rfl rfl ?_
  refine lv_aload_n B.hx B.hb dX1_init_12 rfl (lv_at hl 0 rfl) ?_
  refine lv_aload_n B.hx B.hb dX1_init_13 rfl (lv_at hl 1 rfl) ?_
  refine i_putF (ty := .object "QueryHarbor$Stores") (k := 0) (T := TX1) (v := .ref st) B hin h rfl in_X1 tyX1 tyX1_ok nmX1 (by decide) kf_X1_15 rfl rfl (by decide +kernel) rfl rfl (Nat.le_of_ble_eq_true rfl) dX1_init_14 (fun H locs h => ?_)
  have h : HI X A s ([(h0, .inr (1, [.ref st, .null, .null, .null, .null, .ref q1, .int 0, .int 0, .int 0, .int 0, .int 0])), (q1, .inl (X.2.1 0, 12, .inl (fun _ => 0)))]) H locs := h
  refine i_pc (pc' := 17) (c' := 1) (s' := 12) rfl rfl rfl ?_
  refine lv_aload_n B.hx B.hb dX1_init_17 rfl (lv_at hl 0 rfl) ?_
  refine lv_aload_n B.hx B.hb dX1_init_18 rfl (lv_at hl 2 rfl) ?_
  refine i_putF (ty := .object "QueryHarbor$Sources") (k := 1) (T := TX1) (v := .ref so) B hin h rfl in_X1 tyX1 tyX1_ok nmX1 (by decide) kf_X1_19 rfl rfl (by decide +kernel) rfl rfl (Nat.le_of_ble_eq_true rfl) dX1_init_19 (fun H locs h => ?_)
  have h : HI X A s ([(h0, .inr (1, [.ref st, .ref so, .null, .null, .null, .ref q1, .int 0, .int 0, .int 0, .int 0, .int 0])), (q1, .inl (X.2.1 0, 12, .inl (fun _ => 0)))]) H locs := h
  refine i_pc (pc' := 22) (c' := 1) (s' := 12) rfl rfl rfl ?_
  refine lv_aload_n B.hx B.hb dX1_init_22 rfl (lv_at hl 0 rfl) ?_
  refine lv_aload_n B.hx B.hb dX1_init_23 rfl (lv_at hl 3 rfl) ?_
  refine i_putF (ty := .object "QueryHarbor$Cache") (k := 2) (T := TX1) (v := .ref ca) B hin h rfl in_X1 tyX1 tyX1_ok nmX1 (by decide) kf_X1_23 rfl rfl (by decide +kernel) rfl rfl (Nat.le_of_ble_eq_true rfl) dX1_init_24 (fun H locs h => ?_)
  have h : HI X A s ([(h0, .inr (1, [.ref st, .ref so, .ref ca, .null, .null, .ref q1, .int 0, .int 0, .int 0, .int 0, .int 0])), (q1, .inl (X.2.1 0, 12, .inl (fun _ => 0)))]) H locs := h
  refine i_pc (pc' := 27) (c' := 1) (s' := 12) rfl rfl rfl ?_
  refine lv_aload_n B.hx B.hb dX1_init_27 rfl (lv_at hl 0 rfl) ?_
  refine lv_aload B.hx B.hb dX1_init_28 (lv_at hl 4 rfl) ?_
  refine i_putF (ty := .object "QueryHarbor$Draft") (k := 3) (T := TX1) (v := .ref dr) B hin h rfl in_X1 tyX1 tyX1_ok nmX1 (by decide) kf_X1_27 rfl rfl (by decide +kernel) rfl rfl (Nat.le_of_ble_eq_true rfl) dX1_init_30 (fun H locs h => ?_)
  have h : HI X A s ([(h0, .inr (1, [.ref st, .ref so, .ref ca, .ref dr, .null, .ref q1, .int 0, .int 0, .int 0, .int 0, .int 0])), (q1, .inl (X.2.1 0, 12, .inl (fun _ => 0)))]) H locs := h
  refine i_pc (pc' := 33) (c' := 1) (s' := 12) rfl rfl rfl ?_
  refine lv_aload_n B.hx B.hb dX1_init_33 rfl (lv_at hl 0 rfl) ?_
  refine lv_aload B.hx B.hb dX1_init_34 (lv_at hl 5 rfl) ?_
  refine i_putF (ty := .object "QueryHarbor$Answer") (k := 4) (T := TX1) (v := .ref an) B hin h rfl in_X1 tyX1 tyX1_ok nmX1 (by decide) kf_X1_31 rfl rfl (by decide +kernel) rfl rfl (Nat.le_of_ble_eq_true rfl) dX1_init_36 (fun H locs h => ?_)
  have h : HI X A s ([(h0, .inr (1, [.ref st, .ref so, .ref ca, .ref dr, .ref an, .ref q1, .int 0, .int 0, .int 0, .int 0, .int 0])), (q1, .inl (X.2.1 0, 12, .inl (fun _ => 0)))]) H locs := h
  refine i_pc (pc' := 39) (c' := 1) (s' := 12) rfl rfl rfl ?_
  exact i_vret B hr hlk h (fun i => q1) rfl dX1_init_39
abbrev rmi_X2 : Room := { frames := 2, cells := 19, slots := 292, locals := 42 }
set_option maxHeartbeats 4000000 in
set_option maxRecDepth 100000 in
theorem c_X2_init (l : Launch) (X : XT) (h0 st so : Nat) (sz : Nat) : Met l yX2_init (wbig yX2_init cX2_init 4 none) rmi_X2 (va_Pc [.ref h0, .ref st, .ref so] (IP X [(h0, .inr (2, [.null, .null, .null, .null, .null, .null, .null, .null, .null, .int 0]))] sz)) (QN X [(h0, .inr (2, [.null, .null, .null, .null, .null, .null, .null, .null, .null, .int 0]))] sz (wX2 X st so h0)) 19 292 (va_A [(h0, .inr (2, [.null, .null, .null, .null, .null, .null, .null, .null, .null, .int 0]))] sz) := by
  refine init_go (Bp := wX2 X st so h0) (by decide +kernel) (Nat.le_of_ble_eq_true rfl) ?_
  intro p e s m args below meth c A hA B hr hlk hin h ls hl
  have hl : lv_has ls 4 [(0, .ref h0), (1, .ref st), (2, .ref so)] := hl
  refine lv_aload_n B.hx B.hb dX2_init_0 rfl (lv_at hl 0 rfl) ?_
  refine i_obj B hl.1 (big_at 414 (by decide +kernel) (by decide +kernel)) (Nat.le_of_ble_eq_true rfl) (Nat.le_of_ble_eq_true rfl) dX2_init_1 ?_
  refine lv_aload_n B.hx B.hb dX2_init_4 rfl (lv_at hl 0 rfl) ?_
  refine lv_iconst (v := 4) B.hx B.hb dX2_init_5 (by decide) ?_
  refine i_newi B h hA 4 (by decide +kernel) (by decide +kernel) (Nat.le_of_ble_eq_true rfl) (Nat.le_of_ble_eq_true rfl) (Nat.le_of_ble_eq_true rfl) dX2_init_6 (fun q1 H h => ?_)
  have h : HI X A s ([(h0, .inr (2, [.null, .null, .null, .null, .null, .null, .null, .null, .null, .int 0])), (q1, .inl (X.2.1 0, 4, .inl (fun _ => 0)))]) H [] := h
  refine i_putF (ty := .array (.int)) (k := 2) (T := TX2) (v := .ref q1) B hin h rfl in_X2 tyX2 tyX2_ok nmX2 (by decide) kf_X2_9 rfl rfl (by decide +kernel) rfl rfl (Nat.le_of_ble_eq_true rfl) dX2_init_8 (fun H locs h => ?_)
  have h : HI X A s ([(h0, .inr (2, [.null, .null, .ref q1, .null, .null, .null, .null, .null, .null, .int 0])), (q1, .inl (X.2.1 0, 4, .inl (fun _ => 0)))]) H locs := h
  refine i_pc (pc' := 11) (c' := 1) (s' := 4) rfl rfl rfl ?_
  refine lv_aload_n B.hx B.hb dX2_init_11 rfl (lv_at hl 0 rfl) ?_
  refine lv_iconst (v := 4) B.hx B.hb dX2_init_12 (by decide) ?_
  refine i_newi B h hA 4 (by decide +kernel) (by decide +kernel) (Nat.le_of_ble_eq_true rfl) (Nat.le_of_ble_eq_true rfl) (Nat.le_of_ble_eq_true rfl) dX2_init_13 (fun q2 H h => ?_)
  have h : HI X A s ([(h0, .inr (2, [.null, .null, .ref q1, .null, .null, .null, .null, .null, .null, .int 0])), (q1, .inl (X.2.1 0, 4, .inl (fun _ => 0))), (q2, .inl (X.2.1 0, 4, .inl (fun _ => 0)))]) H locs := h
  refine i_putF (ty := .array (.int)) (k := 3) (T := TX2) (v := .ref q2) B hin h rfl in_X2 tyX2 tyX2_ok nmX2 (by decide) kf_X2_15 rfl rfl (by decide +kernel) rfl rfl (Nat.le_of_ble_eq_true rfl) dX2_init_15 (fun H locs h => ?_)
  have h : HI X A s ([(h0, .inr (2, [.null, .null, .ref q1, .ref q2, .null, .null, .null, .null, .null, .int 0])), (q1, .inl (X.2.1 0, 4, .inl (fun _ => 0))), (q2, .inl (X.2.1 0, 4, .inl (fun _ => 0)))]) H locs := h
  refine i_pc (pc' := 18) (c' := 2) (s' := 8) rfl rfl rfl ?_
  refine lv_aload_n B.hx B.hb dX2_init_18 rfl (lv_at hl 0 rfl) ?_
  refine lv_bipush (v := 16) B.hx B.hb dX2_init_19 (by decide) ?_
  refine i_newi B h hA 16 (by decide +kernel) (by decide +kernel) (Nat.le_of_ble_eq_true rfl) (Nat.le_of_ble_eq_true rfl) (Nat.le_of_ble_eq_true rfl) dX2_init_21 (fun q3 H h => ?_)
  have h : HI X A s ([(h0, .inr (2, [.null, .null, .ref q1, .ref q2, .null, .null, .null, .null, .null, .int 0])), (q1, .inl (X.2.1 0, 4, .inl (fun _ => 0))), (q2, .inl (X.2.1 0, 4, .inl (fun _ => 0))), (q3, .inl (X.2.1 0, 16, .inl (fun _ => 0)))]) H locs := h
  refine i_putF (ty := .array (.int)) (k := 4) (T := TX2) (v := .ref q3) B hin h rfl in_X2 tyX2 tyX2_ok nmX2 (by decide) kf_X2_18 rfl rfl (by decide +kernel) rfl rfl (Nat.le_of_ble_eq_true rfl) dX2_init_23 (fun H locs h => ?_)
  have h : HI X A s ([(h0, .inr (2, [.null, .null, .ref q1, .ref q2, .ref q3, .null, .null, .null, .null, .int 0])), (q1, .inl (X.2.1 0, 4, .inl (fun _ => 0))), (q2, .inl (X.2.1 0, 4, .inl (fun _ => 0))), (q3, .inl (X.2.1 0, 16, .inl (fun _ => 0)))]) H locs := h
  refine i_pc (pc' := 26) (c' := 3) (s' := 24) rfl rfl rfl ?_
  refine lv_aload_n B.hx B.hb dX2_init_26 rfl (lv_at hl 0 rfl) ?_
  refine lv_iconst (v := 4) B.hx B.hb dX2_init_27 (by decide) ?_
  refine i_newz B h hA 4 (by decide +kernel) (by decide +kernel) (Nat.le_of_ble_eq_true rfl) (Nat.le_of_ble_eq_true rfl) (Nat.le_of_ble_eq_true rfl) dX2_init_28 (fun q4 H h => ?_)
  have h : HI X A s ([(h0, .inr (2, [.null, .null, .ref q1, .ref q2, .ref q3, .null, .null, .null, .null, .int 0])), (q1, .inl (X.2.1 0, 4, .inl (fun _ => 0))), (q2, .inl (X.2.1 0, 4, .inl (fun _ => 0))), (q3, .inl (X.2.1 0, 16, .inl (fun _ => 0))), (q4, .inl (X.2.1 1, 4, .inl (fun _ => 0)))]) H locs := h
  refine i_putF (ty := .array (.boolean)) (k := 5) (T := TX2) (v := .ref q4) B hin h rfl in_X2 tyX2 tyX2_ok nmX2 (by decide) kf_X2_21 rfl rfl (by decide +kernel) rfl rfl (Nat.le_of_ble_eq_true rfl) dX2_init_30 (fun H locs h => ?_)
  have h : HI X A s ([(h0, .inr (2, [.null, .null, .ref q1, .ref q2, .ref q3, .ref q4, .null, .null, .null, .int 0])), (q1, .inl (X.2.1 0, 4, .inl (fun _ => 0))), (q2, .inl (X.2.1 0, 4, .inl (fun _ => 0))), (q3, .inl (X.2.1 0, 16, .inl (fun _ => 0))), (q4, .inl (X.2.1 1, 4, .inl (fun _ => 0)))]) H locs := h
  refine i_pc (pc' := 33) (c' := 4) (s' := 28) rfl rfl rfl ?_
  refine lv_aload_n B.hx B.hb dX2_init_33 rfl (lv_at hl 0 rfl) ?_
  refine lv_iconst (v := 4) B.hx B.hb dX2_init_34 (by decide) ?_
  refine i_newi B h hA 4 (by decide +kernel) (by decide +kernel) (Nat.le_of_ble_eq_true rfl) (Nat.le_of_ble_eq_true rfl) (Nat.le_of_ble_eq_true rfl) dX2_init_35 (fun q5 H h => ?_)
  have h : HI X A s ([(h0, .inr (2, [.null, .null, .ref q1, .ref q2, .ref q3, .ref q4, .null, .null, .null, .int 0])), (q1, .inl (X.2.1 0, 4, .inl (fun _ => 0))), (q2, .inl (X.2.1 0, 4, .inl (fun _ => 0))), (q3, .inl (X.2.1 0, 16, .inl (fun _ => 0))), (q4, .inl (X.2.1 1, 4, .inl (fun _ => 0))), (q5, .inl (X.2.1 0, 4, .inl (fun _ => 0)))]) H locs := h
  refine i_putF (ty := .array (.int)) (k := 6) (T := TX2) (v := .ref q5) B hin h rfl in_X2 tyX2 tyX2_ok nmX2 (by decide) kf_X2_25 rfl rfl (by decide +kernel) rfl rfl (Nat.le_of_ble_eq_true rfl) dX2_init_37 (fun H locs h => ?_)
  have h : HI X A s ([(h0, .inr (2, [.null, .null, .ref q1, .ref q2, .ref q3, .ref q4, .ref q5, .null, .null, .int 0])), (q1, .inl (X.2.1 0, 4, .inl (fun _ => 0))), (q2, .inl (X.2.1 0, 4, .inl (fun _ => 0))), (q3, .inl (X.2.1 0, 16, .inl (fun _ => 0))), (q4, .inl (X.2.1 1, 4, .inl (fun _ => 0))), (q5, .inl (X.2.1 0, 4, .inl (fun _ => 0)))]) H locs := h
  refine i_pc (pc' := 40) (c' := 5) (s' := 32) rfl rfl rfl ?_
  refine lv_aload_n B.hx B.hb dX2_init_40 rfl (lv_at hl 0 rfl) ?_
  refine lv_iconst (v := 4) B.hx B.hb dX2_init_41 (by decide) ?_
  refine i_newi B h hA 4 (by decide +kernel) (by decide +kernel) (Nat.le_of_ble_eq_true rfl) (Nat.le_of_ble_eq_true rfl) (Nat.le_of_ble_eq_true rfl) dX2_init_42 (fun q6 H h => ?_)
  have h : HI X A s ([(h0, .inr (2, [.null, .null, .ref q1, .ref q2, .ref q3, .ref q4, .ref q5, .null, .null, .int 0])), (q1, .inl (X.2.1 0, 4, .inl (fun _ => 0))), (q2, .inl (X.2.1 0, 4, .inl (fun _ => 0))), (q3, .inl (X.2.1 0, 16, .inl (fun _ => 0))), (q4, .inl (X.2.1 1, 4, .inl (fun _ => 0))), (q5, .inl (X.2.1 0, 4, .inl (fun _ => 0))), (q6, .inl (X.2.1 0, 4, .inl (fun _ => 0)))]) H locs := h
  refine i_putF (ty := .array (.int)) (k := 7) (T := TX2) (v := .ref q6) B hin h rfl in_X2 tyX2 tyX2_ok nmX2 (by decide) kf_X2_28 rfl rfl (by decide +kernel) rfl rfl (Nat.le_of_ble_eq_true rfl) dX2_init_44 (fun H locs h => ?_)
  have h : HI X A s ([(h0, .inr (2, [.null, .null, .ref q1, .ref q2, .ref q3, .ref q4, .ref q5, .ref q6, .null, .int 0])), (q1, .inl (X.2.1 0, 4, .inl (fun _ => 0))), (q2, .inl (X.2.1 0, 4, .inl (fun _ => 0))), (q3, .inl (X.2.1 0, 16, .inl (fun _ => 0))), (q4, .inl (X.2.1 1, 4, .inl (fun _ => 0))), (q5, .inl (X.2.1 0, 4, .inl (fun _ => 0))), (q6, .inl (X.2.1 0, 4, .inl (fun _ => 0)))]) H locs := h
  refine i_pc (pc' := 47) (c' := 6) (s' := 36) rfl rfl rfl ?_
  refine lv_aload_n B.hx B.hb dX2_init_47 rfl (lv_at hl 0 rfl) ?_
  refine lv_iconst (v := 4) B.hx B.hb dX2_init_48 (by decide) ?_
  refine i_newq B h hA 2 rfl (big_at 415 (by decide +kernel) (by decide +kernel)) B.hN.2.2 4 (by decide +kernel) (by decide +kernel) (Nat.le_of_ble_eq_true rfl) (Nat.le_of_ble_eq_true rfl) (Nat.le_of_ble_eq_true rfl) dX2_init_49 (fun q7 H h => ?_)
  have h : HI X A s ([(h0, .inr (2, [.null, .null, .ref q1, .ref q2, .ref q3, .ref q4, .ref q5, .ref q6, .null, .int 0])), (q1, .inl (X.2.1 0, 4, .inl (fun _ => 0))), (q2, .inl (X.2.1 0, 4, .inl (fun _ => 0))), (q3, .inl (X.2.1 0, 16, .inl (fun _ => 0))), (q4, .inl (X.2.1 1, 4, .inl (fun _ => 0))), (q5, .inl (X.2.1 0, 4, .inl (fun _ => 0))), (q6, .inl (X.2.1 0, 4, .inl (fun _ => 0))), (q7, .inl (X.2.1 2, 4, .inr (.inr (.inr (.inr (fun _ => none))))))]) H locs := h
  refine i_putF (ty := .array (.object "QueryHarbor$Rows")) (k := 8) (T := TX2) (v := .ref q7) B hin h rfl in_X2 tyX2 tyX2_ok nmX2 (by decide) kf_X2_33 rfl rfl (by decide +kernel) rfl rfl (Nat.le_of_ble_eq_true rfl) dX2_init_52 (fun H locs h => ?_)
  have h : HI X A s ([(h0, .inr (2, [.null, .null, .ref q1, .ref q2, .ref q3, .ref q4, .ref q5, .ref q6, .ref q7, .int 0])), (q1, .inl (X.2.1 0, 4, .inl (fun _ => 0))), (q2, .inl (X.2.1 0, 4, .inl (fun _ => 0))), (q3, .inl (X.2.1 0, 16, .inl (fun _ => 0))), (q4, .inl (X.2.1 1, 4, .inl (fun _ => 0))), (q5, .inl (X.2.1 0, 4, .inl (fun _ => 0))), (q6, .inl (X.2.1 0, 4, .inl (fun _ => 0))), (q7, .inl (X.2.1 2, 4, .inr (.inr (.inr (.inr (fun _ => none))))))]) H locs := h
  refine i_pc (pc' := 55) (c' := 7) (s' := 40) rfl rfl rfl ?_
  refine lv_aload_n B.hx B.hb dX2_init_55 rfl (lv_at hl 0 rfl) ?_
  refine lv_aload_n B.hx B.hb dX2_init_56 rfl (lv_at hl 1 rfl) ?_
  refine i_putF (ty := .object "QueryHarbor$Stores") (k := 0) (T := TX2) (v := .ref st) B hin h rfl in_X2 tyX2 tyX2_ok nmX2 (by decide) kf_X2_37 rfl rfl (by decide +kernel) rfl rfl (Nat.le_of_ble_eq_true rfl) dX2_init_57 (fun H locs h => ?_)
  have h : HI X A s ([(h0, .inr (2, [.ref st, .null, .ref q1, .ref q2, .ref q3, .ref q4, .ref q5, .ref q6, .ref q7, .int 0])), (q1, .inl (X.2.1 0, 4, .inl (fun _ => 0))), (q2, .inl (X.2.1 0, 4, .inl (fun _ => 0))), (q3, .inl (X.2.1 0, 16, .inl (fun _ => 0))), (q4, .inl (X.2.1 1, 4, .inl (fun _ => 0))), (q5, .inl (X.2.1 0, 4, .inl (fun _ => 0))), (q6, .inl (X.2.1 0, 4, .inl (fun _ => 0))), (q7, .inl (X.2.1 2, 4, .inr (.inr (.inr (.inr (fun _ => none))))))]) H locs := h
  refine i_pc (pc' := 60) (c' := 7) (s' := 40) rfl rfl rfl ?_
  refine lv_aload_n B.hx B.hb dX2_init_60 rfl (lv_at hl 0 rfl) ?_
  refine lv_aload_n B.hx B.hb dX2_init_61 rfl (lv_at hl 2 rfl) ?_
  refine i_putF (ty := .object "QueryHarbor$Sources") (k := 1) (T := TX2) (v := .ref so) B hin h rfl in_X2 tyX2 tyX2_ok nmX2 (by decide) kf_X2_41 rfl rfl (by decide +kernel) rfl rfl (Nat.le_of_ble_eq_true rfl) dX2_init_62 (fun H locs h => ?_)
  have h : HI X A s ([(h0, .inr (2, [.ref st, .ref so, .ref q1, .ref q2, .ref q3, .ref q4, .ref q5, .ref q6, .ref q7, .int 0])), (q1, .inl (X.2.1 0, 4, .inl (fun _ => 0))), (q2, .inl (X.2.1 0, 4, .inl (fun _ => 0))), (q3, .inl (X.2.1 0, 16, .inl (fun _ => 0))), (q4, .inl (X.2.1 1, 4, .inl (fun _ => 0))), (q5, .inl (X.2.1 0, 4, .inl (fun _ => 0))), (q6, .inl (X.2.1 0, 4, .inl (fun _ => 0))), (q7, .inl (X.2.1 2, 4, .inr (.inr (.inr (.inr (fun _ => none))))))]) H locs := h
  refine i_pc (pc' := 65) (c' := 7) (s' := 40) rfl rfl rfl ?_
  refine lv_iconst (v := 0) B.hx B.hb dX2_init_65 (by decide) ?_
  refine lv_istore_n (lv' := [(3, .int 0), (0, .ref h0), (1, .ref st), (2, .ref so)]) B.hx B.hb dX2_init_66 rfl hl (by decide) rfl (fun ls hl => ?_)
  refine lv_iload_n B.hx B.hb dX2_init_67 rfl (lv_at hl 0 rfl) ?_
  refine lv_iconst (v := 4) B.hx B.hb dX2_init_68 (by decide) ?_
  refine lv_icmp_ge (tgt := 91) B.hx B.hb dX2_init_69 (by decide) (fun c9 => absurd c9 (by decide)) (fun _ => ?_)
  refine lv_aload_n B.hx B.hb dX2_init_72 rfl (lv_at hl 1 rfl) ?_
  refine i_getf B h 0 (k := 8) (T := TX2) rfl rfl in_X2 (by decide) kf_X2_33 rfl dX2_init_73 ?_
  refine lv_iload_n B.hx B.hb dX2_init_76 rfl (lv_at hl 0 rfl) ?_
  refine i_new (ci := 6) (fs := [.null, .null, .int 0]) B h hA rfl in_X6 tyX6 tyX6_ok (big_at 415 (by decide +kernel) (by decide +kernel)) (big_at 60 (by decide +kernel) (by decide +kernel)) ki_X6 (fun j hj => by rcases (show j = 0 ∨ j = 1 ∨ j = 2 by omega) with rfl | rfl | rfl <;> rfl) (Nat.le_of_ble_eq_true rfl) (Nat.le_of_ble_eq_true rfl) dX2_init_77 (fun q8 H h => ?_)
  refine lv_dup B.hx B.hb dX2_init_80 rfl ?_
  refine i_callN (As := []) (rest := [.ref q8, .int 0, .ref q7]) (n := 0) (host := "QueryHarbor") B h hA (c_X6_init l X q8  H.size) hl.1 kc_X6_init (List.mem_of_getElem? (i := 6) (by decide +kernel)) ki_X6 kn_X6_init rfl ⟨by decide +kernel, by decide +kernel, by decide +kernel⟩ rfl rfl rfl ⟨(Nat.le_of_ble_eq_true rfl), (Nat.le_of_ble_eq_true rfl)⟩ (Nat.le_of_ble_eq_true rfl) ⟨(Nat.le_of_ble_eq_true rfl), (Nat.le_of_ble_eq_true rfl)⟩ dX2_init_81 rfl (fun u9 H locs h => ?_)
  have h : HI X A s ((h0, .inr (2, [.ref st, .ref so, .ref q1, .ref q2, .ref q3, .ref q4, .ref q5, .ref q6, .ref q7, .int 0])) :: (q1, .inl (X.2.1 0, 4, .inl (fun _ => 0))) :: (q2, .inl (X.2.1 0, 4, .inl (fun _ => 0))) :: (q3, .inl (X.2.1 0, 16, .inl (fun _ => 0))) :: (q4, .inl (X.2.1 1, 4, .inl (fun _ => 0))) :: (q5, .inl (X.2.1 0, 4, .inl (fun _ => 0))) :: (q6, .inl (X.2.1 0, 4, .inl (fun _ => 0))) :: (q7, .inl (X.2.1 2, 4, .inr (.inr (.inr (.inr (fun _ => none)))))) :: (wX6 X q8 u9)) H locs := h
  refine i_pc (pc' := 84) (c' := 10) (s' := 103) rfl rfl rfl ?_
  refine i_fillR B (x := 0) 2 7 8 h rfl rfl rfl rfl (by decide) dX2_init_84 (fun H locs h => ?_)
  have h : HI X A s ((h0, .inr (2, [.ref st, .ref so, .ref q1, .ref q2, .ref q3, .ref q4, .ref q5, .ref q6, .ref q7, .int 0])) :: (q1, .inl (X.2.1 0, 4, .inl (fun _ => 0))) :: (q2, .inl (X.2.1 0, 4, .inl (fun _ => 0))) :: (q3, .inl (X.2.1 0, 16, .inl (fun _ => 0))) :: (q4, .inl (X.2.1 1, 4, .inl (fun _ => 0))) :: (q5, .inl (X.2.1 0, 4, .inl (fun _ => 0))) :: (q6, .inl (X.2.1 0, 4, .inl (fun _ => 0))) :: (q7, .inl (X.2.1 2, 4, .inr (.inr (.inr (.inr (va_up (fun _ => none) (0 : Int32).toNatClampNeg (some q8))))))) :: (wX6 X q8 u9)) H locs := h
  refine i_pc (pc' := 85) (c' := 10) (s' := 103) rfl rfl rfl ?_
  refine lv_iinc (v := 1) (lv' := [(3, .int 1), (0, .ref h0), (1, .ref st), (2, .ref so)]) B.hx B.hb dX2_init_85 hl (k := 0) rfl (by decide) (by decide) rfl (fun ls hl => ?_)
  refine lv_goto (tgt := 67) B.hx B.hb dX2_init_88 (by decide) ?_
  refine lv_iload_n B.hx B.hb dX2_init_67 rfl (lv_at hl 0 rfl) ?_
  refine lv_iconst (v := 4) B.hx B.hb dX2_init_68 (by decide) ?_
  refine lv_icmp_ge (tgt := 91) B.hx B.hb dX2_init_69 (by decide) (fun c9 => absurd c9 (by decide)) (fun _ => ?_)
  refine lv_aload_n B.hx B.hb dX2_init_72 rfl (lv_at hl 1 rfl) ?_
  refine i_getf B h 0 (k := 8) (T := TX2) rfl rfl in_X2 (by decide) kf_X2_33 rfl dX2_init_73 ?_
  refine lv_iload_n B.hx B.hb dX2_init_76 rfl (lv_at hl 0 rfl) ?_
  refine i_new (ci := 6) (fs := [.null, .null, .int 0]) B h hA rfl in_X6 tyX6 tyX6_ok (big_at 415 (by decide +kernel) (by decide +kernel)) (big_at 60 (by decide +kernel) (by decide +kernel)) ki_X6 (fun j hj => by rcases (show j = 0 ∨ j = 1 ∨ j = 2 by omega) with rfl | rfl | rfl <;> rfl) (Nat.le_of_ble_eq_true rfl) (Nat.le_of_ble_eq_true rfl) dX2_init_77 (fun q10 H h => ?_)
  refine lv_dup B.hx B.hb dX2_init_80 rfl ?_
  refine i_callN (As := []) (rest := [.ref q10, .int 1, .ref q7]) (n := 0) (host := "QueryHarbor") B h hA (c_X6_init l X q10  H.size) hl.1 kc_X6_init (List.mem_of_getElem? (i := 6) (by decide +kernel)) ki_X6 kn_X6_init rfl ⟨by decide +kernel, by decide +kernel, by decide +kernel⟩ rfl rfl rfl ⟨(Nat.le_of_ble_eq_true rfl), (Nat.le_of_ble_eq_true rfl)⟩ (Nat.le_of_ble_eq_true rfl) ⟨(Nat.le_of_ble_eq_true rfl), (Nat.le_of_ble_eq_true rfl)⟩ dX2_init_81 rfl (fun u11 H locs h => ?_)
  have h : HI X A s ((h0, .inr (2, [.ref st, .ref so, .ref q1, .ref q2, .ref q3, .ref q4, .ref q5, .ref q6, .ref q7, .int 0])) :: (q1, .inl (X.2.1 0, 4, .inl (fun _ => 0))) :: (q2, .inl (X.2.1 0, 4, .inl (fun _ => 0))) :: (q3, .inl (X.2.1 0, 16, .inl (fun _ => 0))) :: (q4, .inl (X.2.1 1, 4, .inl (fun _ => 0))) :: (q5, .inl (X.2.1 0, 4, .inl (fun _ => 0))) :: (q6, .inl (X.2.1 0, 4, .inl (fun _ => 0))) :: (q7, .inl (X.2.1 2, 4, .inr (.inr (.inr (.inr (va_up (fun _ => none) (0 : Int32).toNatClampNeg (some q8))))))) :: (wX6 X q8 u9 ++ wX6 X q10 u11)) H locs := h
  refine i_pc (pc' := 84) (c' := 13) (s' := 166) rfl rfl rfl ?_
  refine i_fillR B (x := 1) 2 7 11 h rfl rfl rfl rfl (by decide) dX2_init_84 (fun H locs h => ?_)
  have h : HI X A s ((h0, .inr (2, [.ref st, .ref so, .ref q1, .ref q2, .ref q3, .ref q4, .ref q5, .ref q6, .ref q7, .int 0])) :: (q1, .inl (X.2.1 0, 4, .inl (fun _ => 0))) :: (q2, .inl (X.2.1 0, 4, .inl (fun _ => 0))) :: (q3, .inl (X.2.1 0, 16, .inl (fun _ => 0))) :: (q4, .inl (X.2.1 1, 4, .inl (fun _ => 0))) :: (q5, .inl (X.2.1 0, 4, .inl (fun _ => 0))) :: (q6, .inl (X.2.1 0, 4, .inl (fun _ => 0))) :: (q7, .inl (X.2.1 2, 4, .inr (.inr (.inr (.inr (va_up (va_up (fun _ => none) (0 : Int32).toNatClampNeg (some q8)) (1 : Int32).toNatClampNeg (some q10))))))) :: (wX6 X q8 u9 ++ wX6 X q10 u11)) H locs := h
  refine i_pc (pc' := 85) (c' := 13) (s' := 166) rfl rfl rfl ?_
  refine lv_iinc (v := 2) (lv' := [(3, .int 2), (0, .ref h0), (1, .ref st), (2, .ref so)]) B.hx B.hb dX2_init_85 hl (k := 0) rfl (by decide) (by decide) rfl (fun ls hl => ?_)
  refine lv_goto (tgt := 67) B.hx B.hb dX2_init_88 (by decide) ?_
  refine lv_iload_n B.hx B.hb dX2_init_67 rfl (lv_at hl 0 rfl) ?_
  refine lv_iconst (v := 4) B.hx B.hb dX2_init_68 (by decide) ?_
  refine lv_icmp_ge (tgt := 91) B.hx B.hb dX2_init_69 (by decide) (fun c9 => absurd c9 (by decide)) (fun _ => ?_)
  refine lv_aload_n B.hx B.hb dX2_init_72 rfl (lv_at hl 1 rfl) ?_
  refine i_getf B h 0 (k := 8) (T := TX2) rfl rfl in_X2 (by decide) kf_X2_33 rfl dX2_init_73 ?_
  refine lv_iload_n B.hx B.hb dX2_init_76 rfl (lv_at hl 0 rfl) ?_
  refine i_new (ci := 6) (fs := [.null, .null, .int 0]) B h hA rfl in_X6 tyX6 tyX6_ok (big_at 415 (by decide +kernel) (by decide +kernel)) (big_at 60 (by decide +kernel) (by decide +kernel)) ki_X6 (fun j hj => by rcases (show j = 0 ∨ j = 1 ∨ j = 2 by omega) with rfl | rfl | rfl <;> rfl) (Nat.le_of_ble_eq_true rfl) (Nat.le_of_ble_eq_true rfl) dX2_init_77 (fun q12 H h => ?_)
  refine lv_dup B.hx B.hb dX2_init_80 rfl ?_
  refine i_callN (As := []) (rest := [.ref q12, .int 2, .ref q7]) (n := 0) (host := "QueryHarbor") B h hA (c_X6_init l X q12  H.size) hl.1 kc_X6_init (List.mem_of_getElem? (i := 6) (by decide +kernel)) ki_X6 kn_X6_init rfl ⟨by decide +kernel, by decide +kernel, by decide +kernel⟩ rfl rfl rfl ⟨(Nat.le_of_ble_eq_true rfl), (Nat.le_of_ble_eq_true rfl)⟩ (Nat.le_of_ble_eq_true rfl) ⟨(Nat.le_of_ble_eq_true rfl), (Nat.le_of_ble_eq_true rfl)⟩ dX2_init_81 rfl (fun u13 H locs h => ?_)
  have h : HI X A s ((h0, .inr (2, [.ref st, .ref so, .ref q1, .ref q2, .ref q3, .ref q4, .ref q5, .ref q6, .ref q7, .int 0])) :: (q1, .inl (X.2.1 0, 4, .inl (fun _ => 0))) :: (q2, .inl (X.2.1 0, 4, .inl (fun _ => 0))) :: (q3, .inl (X.2.1 0, 16, .inl (fun _ => 0))) :: (q4, .inl (X.2.1 1, 4, .inl (fun _ => 0))) :: (q5, .inl (X.2.1 0, 4, .inl (fun _ => 0))) :: (q6, .inl (X.2.1 0, 4, .inl (fun _ => 0))) :: (q7, .inl (X.2.1 2, 4, .inr (.inr (.inr (.inr (va_up (va_up (fun _ => none) (0 : Int32).toNatClampNeg (some q8)) (1 : Int32).toNatClampNeg (some q10))))))) :: (wX6 X q8 u9 ++ wX6 X q10 u11 ++ wX6 X q12 u13)) H locs := h
  refine i_pc (pc' := 84) (c' := 16) (s' := 229) rfl rfl rfl ?_
  refine i_fillR B (x := 2) 2 7 14 h rfl rfl rfl rfl (by decide) dX2_init_84 (fun H locs h => ?_)
  have h : HI X A s ((h0, .inr (2, [.ref st, .ref so, .ref q1, .ref q2, .ref q3, .ref q4, .ref q5, .ref q6, .ref q7, .int 0])) :: (q1, .inl (X.2.1 0, 4, .inl (fun _ => 0))) :: (q2, .inl (X.2.1 0, 4, .inl (fun _ => 0))) :: (q3, .inl (X.2.1 0, 16, .inl (fun _ => 0))) :: (q4, .inl (X.2.1 1, 4, .inl (fun _ => 0))) :: (q5, .inl (X.2.1 0, 4, .inl (fun _ => 0))) :: (q6, .inl (X.2.1 0, 4, .inl (fun _ => 0))) :: (q7, .inl (X.2.1 2, 4, .inr (.inr (.inr (.inr (va_up (va_up (va_up (fun _ => none) (0 : Int32).toNatClampNeg (some q8)) (1 : Int32).toNatClampNeg (some q10)) (2 : Int32).toNatClampNeg (some q12))))))) :: (wX6 X q8 u9 ++ wX6 X q10 u11 ++ wX6 X q12 u13)) H locs := h
  refine i_pc (pc' := 85) (c' := 16) (s' := 229) rfl rfl rfl ?_
  refine lv_iinc (v := 3) (lv' := [(3, .int 3), (0, .ref h0), (1, .ref st), (2, .ref so)]) B.hx B.hb dX2_init_85 hl (k := 0) rfl (by decide) (by decide) rfl (fun ls hl => ?_)
  refine lv_goto (tgt := 67) B.hx B.hb dX2_init_88 (by decide) ?_
  refine lv_iload_n B.hx B.hb dX2_init_67 rfl (lv_at hl 0 rfl) ?_
  refine lv_iconst (v := 4) B.hx B.hb dX2_init_68 (by decide) ?_
  refine lv_icmp_ge (tgt := 91) B.hx B.hb dX2_init_69 (by decide) (fun c9 => absurd c9 (by decide)) (fun _ => ?_)
  refine lv_aload_n B.hx B.hb dX2_init_72 rfl (lv_at hl 1 rfl) ?_
  refine i_getf B h 0 (k := 8) (T := TX2) rfl rfl in_X2 (by decide) kf_X2_33 rfl dX2_init_73 ?_
  refine lv_iload_n B.hx B.hb dX2_init_76 rfl (lv_at hl 0 rfl) ?_
  refine i_new (ci := 6) (fs := [.null, .null, .int 0]) B h hA rfl in_X6 tyX6 tyX6_ok (big_at 415 (by decide +kernel) (by decide +kernel)) (big_at 60 (by decide +kernel) (by decide +kernel)) ki_X6 (fun j hj => by rcases (show j = 0 ∨ j = 1 ∨ j = 2 by omega) with rfl | rfl | rfl <;> rfl) (Nat.le_of_ble_eq_true rfl) (Nat.le_of_ble_eq_true rfl) dX2_init_77 (fun q14 H h => ?_)
  refine lv_dup B.hx B.hb dX2_init_80 rfl ?_
  refine i_callN (As := []) (rest := [.ref q14, .int 3, .ref q7]) (n := 0) (host := "QueryHarbor") B h hA (c_X6_init l X q14  H.size) hl.1 kc_X6_init (List.mem_of_getElem? (i := 6) (by decide +kernel)) ki_X6 kn_X6_init rfl ⟨by decide +kernel, by decide +kernel, by decide +kernel⟩ rfl rfl rfl ⟨(Nat.le_of_ble_eq_true rfl), (Nat.le_of_ble_eq_true rfl)⟩ (Nat.le_of_ble_eq_true rfl) ⟨(Nat.le_of_ble_eq_true rfl), (Nat.le_of_ble_eq_true rfl)⟩ dX2_init_81 rfl (fun u15 H locs h => ?_)
  have h : HI X A s ((h0, .inr (2, [.ref st, .ref so, .ref q1, .ref q2, .ref q3, .ref q4, .ref q5, .ref q6, .ref q7, .int 0])) :: (q1, .inl (X.2.1 0, 4, .inl (fun _ => 0))) :: (q2, .inl (X.2.1 0, 4, .inl (fun _ => 0))) :: (q3, .inl (X.2.1 0, 16, .inl (fun _ => 0))) :: (q4, .inl (X.2.1 1, 4, .inl (fun _ => 0))) :: (q5, .inl (X.2.1 0, 4, .inl (fun _ => 0))) :: (q6, .inl (X.2.1 0, 4, .inl (fun _ => 0))) :: (q7, .inl (X.2.1 2, 4, .inr (.inr (.inr (.inr (va_up (va_up (va_up (fun _ => none) (0 : Int32).toNatClampNeg (some q8)) (1 : Int32).toNatClampNeg (some q10)) (2 : Int32).toNatClampNeg (some q12))))))) :: (wX6 X q8 u9 ++ wX6 X q10 u11 ++ wX6 X q12 u13 ++ wX6 X q14 u15)) H locs := h
  refine i_pc (pc' := 84) (c' := 19) (s' := 292) rfl rfl rfl ?_
  refine i_fillR B (x := 3) 2 7 17 h rfl rfl rfl rfl (by decide) dX2_init_84 (fun H locs h => ?_)
  have h : HI X A s ((h0, .inr (2, [.ref st, .ref so, .ref q1, .ref q2, .ref q3, .ref q4, .ref q5, .ref q6, .ref q7, .int 0])) :: (q1, .inl (X.2.1 0, 4, .inl (fun _ => 0))) :: (q2, .inl (X.2.1 0, 4, .inl (fun _ => 0))) :: (q3, .inl (X.2.1 0, 16, .inl (fun _ => 0))) :: (q4, .inl (X.2.1 1, 4, .inl (fun _ => 0))) :: (q5, .inl (X.2.1 0, 4, .inl (fun _ => 0))) :: (q6, .inl (X.2.1 0, 4, .inl (fun _ => 0))) :: (q7, .inl (X.2.1 2, 4, .inr (.inr (.inr (.inr (va_up (va_up (va_up (va_up (fun _ => none) (0 : Int32).toNatClampNeg (some q8)) (1 : Int32).toNatClampNeg (some q10)) (2 : Int32).toNatClampNeg (some q12)) (3 : Int32).toNatClampNeg (some q14))))))) :: (wX6 X q8 u9 ++ wX6 X q10 u11 ++ wX6 X q12 u13 ++ wX6 X q14 u15)) H locs := h
  refine i_pc (pc' := 85) (c' := 19) (s' := 292) rfl rfl rfl ?_
  refine lv_iinc (v := 4) (lv' := [(3, .int 4), (0, .ref h0), (1, .ref st), (2, .ref so)]) B.hx B.hb dX2_init_85 hl (k := 0) rfl (by decide) (by decide) rfl (fun ls hl => ?_)
  refine lv_goto (tgt := 67) B.hx B.hb dX2_init_88 (by decide) ?_
  refine lv_iload_n B.hx B.hb dX2_init_67 rfl (lv_at hl 0 rfl) ?_
  refine lv_iconst (v := 4) B.hx B.hb dX2_init_68 (by decide) ?_
  refine lv_icmp_ge (tgt := 91) B.hx B.hb dX2_init_69 (by decide) (fun _ => ?_) (fun c9 => absurd (by decide) c9)
  have h := HI.nrmq (a := q7) 7 (fun j => some (if j = 0 then q8 else if j = 1 then q10 else if j = 2 then q12 else q14)) h rfl (fun j hj => by rcases (show j = 0 ∨ j = 1 ∨ j = 2 ∨ j = 3 by omega) with rfl | rfl | rfl | rfl <;> rfl)
  have h : HI X A s ((h0, .inr (2, [.ref st, .ref so, .ref q1, .ref q2, .ref q3, .ref q4, .ref q5, .ref q6, .ref q7, .int 0])) :: (q1, .inl (X.2.1 0, 4, .inl (fun _ => 0))) :: (q2, .inl (X.2.1 0, 4, .inl (fun _ => 0))) :: (q3, .inl (X.2.1 0, 16, .inl (fun _ => 0))) :: (q4, .inl (X.2.1 1, 4, .inl (fun _ => 0))) :: (q5, .inl (X.2.1 0, 4, .inl (fun _ => 0))) :: (q6, .inl (X.2.1 0, 4, .inl (fun _ => 0))) :: (q7, .inl (X.2.1 2, 4, .inr (.inr (.inr (.inr (fun j => some (if j = 0 then q8 else if j = 1 then q10 else if j = 2 then q12 else q14))))))) :: (wX6 X q8 u9 ++ wX6 X q10 u11 ++ wX6 X q12 u13 ++ wX6 X q14 u15)) H locs := h
  exact i_vret B hr hlk h (fun i => (if i < 6 then (if i < 3 then (if i < 2 then q1 else q2) else (if i < 4 then q3 else (if i < 5 then q4 else q5))) else (if i < 11 then (if i < 7 then q6 else (if i < 8 then q7 else (if i = 8 then q8 else u9 (i - 8)))) else (if i < 14 then (if i = 11 then q10 else u11 (i - 11)) else (if i < 17 then (if i = 14 then q12 else u13 (i - 14)) else (if i = 17 then q14 else u15 (i - 17))))))) rfl dX2_init_91
