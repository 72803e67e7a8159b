abbrev rmi_X10 : Room := { frames := 4, cells := 141, slots := 2038, locals := 84 }
set_option maxHeartbeats 4000000 in
set_option maxRecDepth 100000 in
theorem c_X10_init (l : Launch) (X : XT) (h0 : Nat) (sz : Nat) : Met l yX10_init (wbig yX10_init cX10_init 1 none) rmi_X10 (va_Pc [.ref h0] (IP X [(h0, .inr (10, [.null, .null, .null, .null, .null, .null, .null, .null, .null]))] sz)) (QN X [(h0, .inr (10, [.null, .null, .null, .null, .null, .null, .null, .null, .null]))] sz (wX10 X h0)) 141 2038 (va_A [(h0, .inr (10, [.null, .null, .null, .null, .null, .null, .null, .null, .null]))] sz) := by
  refine init_go (Bp := wX10 X h0) (by decide +kernel) (Nat.le_of_ble_eq_true rfl) ?_
  intro p e s m args below meth c A hA B hr hlk hin h ls hl
  have hl : lv_has ls 1 [(0, .ref h0)] := hl
  refine lv_aload_n B.hx B.hb dX10_init_0 rfl (lv_at hl 0 rfl) ?_
  refine i_obj B hl.1 (big_at 25 (by decide +kernel) (by decide +kernel)) (Nat.le_of_ble_eq_true rfl) (Nat.le_of_ble_eq_true rfl) dX10_init_1 ?_
  refine lv_aload_n B.hx B.hb dX10_init_4 rfl (lv_at hl 0 rfl) ?_
  refine i_new (ci := 9) (fs := [.int 0, .int 0]) B h hA rfl in_X9 tyX9 tyX9_ok (big_at 28 (by decide +kernel) (by decide +kernel)) (big_at 29 (by decide +kernel) (by decide +kernel)) ki_X9 (fun j hj => by rcases (show j = 0 ∨ j = 1 by omega) with rfl | rfl <;> rfl) (Nat.le_of_ble_eq_true rfl) (Nat.le_of_ble_eq_true rfl) dX10_init_5 (fun q1 H h => ?_)
  refine lv_dup B.hx B.hb dX10_init_8 rfl ?_
  refine i_callN (As := []) (rest := [.ref q1, .ref h0]) (n := 0) (host := "QueryHarbor") B h hA (c_X9_init l X q1  H.size) hl.1 kc_X9_init (List.mem_of_getElem? (i := 0) (by decide +kernel)) ki_X9 kn_X9_init rfl ⟨by decide +kernel, by decide +kernel, by decide +kernel⟩ rfl rfl rfl ⟨(Nat.le_of_ble_eq_true rfl), (Nat.le_of_ble_eq_true rfl)⟩ (Nat.le_of_ble_eq_true rfl) ⟨(Nat.le_of_ble_eq_true rfl), (Nat.le_of_ble_eq_true rfl)⟩ dX10_init_9 rfl (fun u2 H locs h => ?_)
  have h : HI X A s ((h0, .inr (10, [.null, .null, .null, .null, .null, .null, .null, .null, .null])) :: (wX9 X q1 u2)) H locs := h
  refine i_pc (pc' := 12) (c' := 1) (s' := 2) rfl rfl rfl ?_
  refine i_putF (ty := .object "QueryHarbor$Time") (k := 0) (T := TX10) (v := .ref q1) B hin h rfl in_X10 tyX10 tyX10_ok nmX10 (by decide) kf_X10_10 rfl rfl (by decide +kernel) rfl rfl (Nat.le_of_ble_eq_true rfl) dX10_init_12 (fun H locs h => ?_)
  have h : HI X A s ((h0, .inr (10, [.ref q1, .null, .null, .null, .null, .null, .null, .null, .null])) :: (wX9 X q1 u2)) H locs := h
  refine i_pc (pc' := 15) (c' := 1) (s' := 2) rfl rfl rfl ?_
  refine lv_aload_n B.hx B.hb dX10_init_15 rfl (lv_at hl 0 rfl) ?_
  refine i_new (ci := 3) (fs := [.null, .null, .null, .null, .int 0]) B h hA rfl in_X3 tyX3 tyX3_ok (big_at 46 (by decide +kernel) (by decide +kernel)) (big_at 47 (by decide +kernel) (by decide +kernel)) ki_X3 (fun j hj => by rcases (show j = 0 ∨ j = 1 ∨ j = 2 ∨ j = 3 ∨ j = 4 by omega) with rfl | rfl | rfl | rfl | rfl <;> rfl) (Nat.le_of_ble_eq_true rfl) (Nat.le_of_ble_eq_true rfl) dX10_init_16 (fun q3 H h => ?_)
  refine lv_dup B.hx B.hb dX10_init_19 rfl ?_
  refine lv_aload_n B.hx B.hb dX10_init_20 rfl (lv_at hl 0 rfl) ?_
  refine i_getf B h 0 (k := 0) (T := TX10) rfl rfl in_X10 (by decide) kf_X10_10 rfl dX10_init_21 ?_
  refine i_callI (As := [.ref q1]) (rest := [.ref q3, .ref h0]) (n := 1) B h hA (c_X3_init l X q3 q1 H.size) hl.1 kc_X3_init (big_at 48 (by decide +kernel) (by decide +kernel)) ki_X3 kn_X3_init rfl ⟨by decide +kernel, by decide +kernel, by decide +kernel⟩ rfl rfl rfl ⟨(Nat.le_of_ble_eq_true rfl), (Nat.le_of_ble_eq_true rfl)⟩ (Nat.le_of_ble_eq_true rfl) ⟨(Nat.le_of_ble_eq_true rfl), (Nat.le_of_ble_eq_true rfl)⟩ dX10_init_24 rfl (fun u4 H locs h => ?_)
  have h : HI X A s ((h0, .inr (10, [.ref q1, .null, .null, .null, .null, .null, .null, .null, .null])) :: (wX9 X q1 u2 ++ wX3 X q1 q3 u4)) H locs := h
  refine i_pc (pc' := 27) (c' := 47) (s' := 535) rfl rfl rfl ?_
  refine i_putF (ty := .object "QueryHarbor$Cache") (k := 1) (T := TX10) (v := .ref q3) B hin h rfl in_X10 tyX10 tyX10_ok nmX10 (by decide) kf_X10_21 rfl rfl (by decide +kernel) rfl rfl (Nat.le_of_ble_eq_true rfl) dX10_init_27 (fun H locs h => ?_)
  have h : HI X A s ((h0, .inr (10, [.ref q1, .ref q3, .null, .null, .null, .null, .null, .null, .null])) :: (wX9 X q1 u2 ++ wX3 X q1 q3 u4)) H locs := h
  refine i_pc (pc' := 30) (c' := 47) (s' := 535) rfl rfl rfl ?_
  refine lv_aload_n B.hx B.hb dX10_init_30 rfl (lv_at hl 0 rfl) ?_
  refine i_new (ci := 8) (fs := [.null, .null, .null, .null, .null, .null, .null, .null, .null, .null]) B h hA rfl in_X8 tyX8 tyX8_ok (big_at 138 (by decide +kernel) (by decide +kernel)) (big_at 139 (by decide +kernel) (by decide +kernel)) ki_X8 (fun j hj => by rcases (show j = 0 ∨ j = 1 ∨ j = 2 ∨ j = 3 ∨ j = 4 ∨ j = 5 ∨ j = 6 ∨ j = 7 ∨ j = 8 ∨ j = 9 by omega) with rfl | rfl | rfl | rfl | rfl | rfl | rfl | rfl | rfl | rfl <;> rfl) (Nat.le_of_ble_eq_true rfl) (Nat.le_of_ble_eq_true rfl) dX10_init_31 (fun q5 H h => ?_)
  refine lv_dup B.hx B.hb dX10_init_34 rfl ?_
  refine lv_aload_n B.hx B.hb dX10_init_35 rfl (lv_at hl 0 rfl) ?_
  refine i_getf B h 0 (k := 0) (T := TX10) rfl rfl in_X10 (by decide) kf_X10_10 rfl dX10_init_36 ?_
  refine lv_aload_n B.hx B.hb dX10_init_39 rfl (lv_at hl 0 rfl) ?_
  refine i_getf B h 0 (k := 1) (T := TX10) rfl rfl in_X10 (by decide) kf_X10_21 rfl dX10_init_40 ?_
  refine i_callI (As := [.ref q1, .ref q3]) (rest := [.ref q5, .ref h0]) (n := 2) B h hA (c_X8_init l X q5 q1 q3 H.size) hl.1 kc_X8_init (big_at 140 (by decide +kernel) (by decide +kernel)) ki_X8 kn_X8_init rfl ⟨by decide +kernel, by decide +kernel, by decide +kernel⟩ rfl rfl rfl ⟨(Nat.le_of_ble_eq_true rfl), (Nat.le_of_ble_eq_true rfl)⟩ (Nat.le_of_ble_eq_true rfl) ⟨(Nat.le_of_ble_eq_true rfl), (Nat.le_of_ble_eq_true rfl)⟩ dX10_init_43 rfl (fun u6 H locs h => ?_)
  have h : HI X A s ((h0, .inr (10, [.ref q1, .ref q3, .null, .null, .null, .null, .null, .null, .null])) :: (wX9 X q1 u2 ++ wX3 X q1 q3 u4 ++ wX8 X q1 q3 q5 u6)) H locs := h
  refine i_pc (pc' := 46) (c' := 56) (s' := 584) rfl rfl rfl ?_
  refine i_putF (ty := .object "QueryHarbor$Stores") (k := 2) (T := TX10) (v := .ref q5) B hin h rfl in_X10 tyX10 tyX10_ok nmX10 (by decide) kf_X10_30 rfl rfl (by decide +kernel) rfl rfl (Nat.le_of_ble_eq_true rfl) dX10_init_46 (fun H locs h => ?_)
  have h : HI X A s ((h0, .inr (10, [.ref q1, .ref q3, .ref q5, .null, .null, .null, .null, .null, .null])) :: (wX9 X q1 u2 ++ wX3 X q1 q3 u4 ++ wX8 X q1 q3 q5 u6)) H locs := h
  refine i_pc (pc' := 49) (c' := 56) (s' := 584) rfl rfl rfl ?_
  refine lv_aload_n B.hx B.hb dX10_init_49 rfl (lv_at hl 0 rfl) ?_
  refine i_new (ci := 7) (fs := [.null, .null, .null, .null, .null, .null, .int 0]) B h hA rfl in_X7 tyX7 tyX7_ok (big_at 186 (by decide +kernel) (by decide +kernel)) (big_at 187 (by decide +kernel) (by decide +kernel)) ki_X7 (fun j hj => by rcases (show j = 0 ∨ j = 1 ∨ j = 2 ∨ j = 3 ∨ j = 4 ∨ j = 5 ∨ j = 6 by omega) with rfl | rfl | rfl | rfl | rfl | rfl | rfl <;> rfl) (Nat.le_of_ble_eq_true rfl) (Nat.le_of_ble_eq_true rfl) dX10_init_50 (fun q7 H h => ?_)
  refine lv_dup B.hx B.hb dX10_init_53 rfl ?_
  refine lv_aload_n B.hx B.hb dX10_init_54 rfl (lv_at hl 0 rfl) ?_
  refine i_getf B h 0 (k := 0) (T := TX10) rfl rfl in_X10 (by decide) kf_X10_10 rfl dX10_init_55 ?_
  refine lv_aload_n B.hx B.hb dX10_init_58 rfl (lv_at hl 0 rfl) ?_
  refine i_getf B h 0 (k := 1) (T := TX10) rfl rfl in_X10 (by decide) kf_X10_21 rfl dX10_init_59 ?_
  refine i_callI (As := [.ref q1, .ref q3]) (rest := [.ref q7, .ref h0]) (n := 2) B h hA (c_X7_init l X q7 q1 q3 H.size) hl.1 kc_X7_init (big_at 188 (by decide +kernel) (by decide +kernel)) ki_X7 kn_X7_init rfl ⟨by decide +kernel, by decide +kernel, by decide +kernel⟩ rfl rfl rfl ⟨(Nat.le_of_ble_eq_true rfl), (Nat.le_of_ble_eq_true rfl)⟩ (Nat.le_of_ble_eq_true rfl) ⟨(Nat.le_of_ble_eq_true rfl), (Nat.le_of_ble_eq_true rfl)⟩ dX10_init_62 rfl (fun u8 H locs h => ?_)
  have h : HI X A s ((h0, .inr (10, [.ref q1, .ref q3, .ref q5, .null, .null, .null, .null, .null, .null])) :: (wX9 X q1 u2 ++ wX3 X q1 q3 u4 ++ wX8 X q1 q3 q5 u6 ++ wX7 X q1 q3 q7 u8)) H locs := h
  refine i_pc (pc' := 65) (c' := 79) (s' := 993) rfl rfl rfl ?_
  refine i_putF (ty := .object "QueryHarbor$Sources") (k := 3) (T := TX10) (v := .ref q7) B hin h rfl in_X10 tyX10 tyX10_ok nmX10 (by decide) kf_X10_37 rfl rfl (by decide +kernel) rfl rfl (Nat.le_of_ble_eq_true rfl) dX10_init_65 (fun H locs h => ?_)
  have h : HI X A s ((h0, .inr (10, [.ref q1, .ref q3, .ref q5, .ref q7, .null, .null, .null, .null, .null])) :: (wX9 X q1 u2 ++ wX3 X q1 q3 u4 ++ wX8 X q1 q3 q5 u6 ++ wX7 X q1 q3 q7 u8)) H locs := h
  refine i_pc (pc' := 68) (c' := 79) (s' := 993) rfl rfl rfl ?_
  refine lv_aload_n B.hx B.hb dX10_init_68 rfl (lv_at hl 0 rfl) ?_
  refine i_new (ci := 4) (fs := [.null, .null, .null, .null, .null, .null, .null, .null, .null, .int 0, .int 0, .int 0, .int 0, .int 0, .int 0]) B h hA rfl in_X4 tyX4 tyX4_ok (big_at 224 (by decide +kernel) (by decide +kernel)) (big_at 225 (by decide +kernel) (by decide +kernel)) ki_X4 (fun j hj => by rcases (show j = 0 ∨ j = 1 ∨ j = 2 ∨ j = 3 ∨ j = 4 ∨ j = 5 ∨ j = 6 ∨ j = 7 ∨ j = 8 ∨ j = 9 ∨ j = 10 ∨ j = 11 ∨ j = 12 ∨ j = 13 ∨ j = 14 by omega) with rfl | rfl | rfl | rfl | rfl | rfl | rfl | rfl | rfl | rfl | rfl | rfl | rfl | rfl | rfl <;> rfl) (Nat.le_of_ble_eq_true rfl) (Nat.le_of_ble_eq_true rfl) dX10_init_69 (fun q9 H h => ?_)
  refine lv_dup B.hx B.hb dX10_init_72 rfl ?_
  refine i_callN (As := []) (rest := [.ref q9, .ref h0]) (n := 0) (host := "QueryHarbor") B h hA (c_X4_init l X q9  H.size) hl.1 kc_X4_init (List.mem_of_getElem? (i := 4) (by decide +kernel)) ki_X4 kn_X4_init rfl ⟨by decide +kernel, by decide +kernel, by decide +kernel⟩ rfl rfl rfl ⟨(Nat.le_of_ble_eq_true rfl), (Nat.le_of_ble_eq_true rfl)⟩ (Nat.le_of_ble_eq_true rfl) ⟨(Nat.le_of_ble_eq_true rfl), (Nat.le_of_ble_eq_true rfl)⟩ dX10_init_73 rfl (fun u10 H locs h => ?_)
  have h : HI X A s ((h0, .inr (10, [.ref q1, .ref q3, .ref q5, .ref q7, .null, .null, .null, .null, .null])) :: (wX9 X q1 u2 ++ wX3 X q1 q3 u4 ++ wX8 X q1 q3 q5 u6 ++ wX7 X q1 q3 q7 u8 ++ wX4 X q9 u10)) H locs := h
  refine i_pc (pc' := 76) (c' := 89) (s' := 1045) rfl rfl rfl ?_
  refine i_putF (ty := .object "QueryHarbor$Draft") (k := 4) (T := TX10) (v := .ref q9) B hin h rfl in_X10 tyX10 tyX10_ok nmX10 (by decide) kf_X10_44 rfl rfl (by decide +kernel) rfl rfl (Nat.le_of_ble_eq_true rfl) dX10_init_76 (fun H locs h => ?_)
  have h : HI X A s ((h0, .inr (10, [.ref q1, .ref q3, .ref q5, .ref q7, .ref q9, .null, .null, .null, .null])) :: (wX9 X q1 u2 ++ wX3 X q1 q3 u4 ++ wX8 X q1 q3 q5 u6 ++ wX7 X q1 q3 q7 u8 ++ wX4 X q9 u10)) H locs := h
  refine i_pc (pc' := 79) (c' := 89) (s' := 1045) rfl rfl rfl ?_
  refine lv_aload_n B.hx B.hb dX10_init_79 rfl (lv_at hl 0 rfl) ?_
  refine i_new (ci := 0) (fs := [.null, .null, .null, .null, .null, .int 0, .int 0, .int 0, .int 0, .int 0, .int 0, .int 0, .int 0]) B h hA rfl in_X0 tyX0 tyX0_ok (big_at 302 (by decide +kernel) (by decide +kernel)) (big_at 303 (by decide +kernel) (by decide +kernel)) ki_X0 (fun j hj => by rcases (show j = 0 ∨ j = 1 ∨ j = 2 ∨ j = 3 ∨ j = 4 ∨ j = 5 ∨ j = 6 ∨ j = 7 ∨ j = 8 ∨ j = 9 ∨ j = 10 ∨ j = 11 ∨ j = 12 by omega) with rfl | rfl | rfl | rfl | rfl | rfl | rfl | rfl | rfl | rfl | rfl | rfl | rfl <;> rfl) (Nat.le_of_ble_eq_true rfl) (Nat.le_of_ble_eq_true rfl) dX10_init_80 (fun q11 H h => ?_)
  refine lv_dup B.hx B.hb dX10_init_83 rfl ?_
  refine i_callI (As := []) (rest := [.ref q11, .ref h0]) (n := 0) B h hA (c_X0_init l X q11  H.size) hl.1 kc_X0_init (big_at 304 (by decide +kernel) (by decide +kernel)) ki_X0 kn_X0_init rfl ⟨by decide +kernel, by decide +kernel, by decide +kernel⟩ rfl rfl rfl ⟨(Nat.le_of_ble_eq_true rfl), (Nat.le_of_ble_eq_true rfl)⟩ (Nat.le_of_ble_eq_true rfl) ⟨(Nat.le_of_ble_eq_true rfl), (Nat.le_of_ble_eq_true rfl)⟩ dX10_init_84 rfl (fun u12 H locs h => ?_)
  have h : HI X A s ((h0, .inr (10, [.ref q1, .ref q3, .ref q5, .ref q7, .ref q9, .null, .null, .null, .null])) :: (wX9 X q1 u2 ++ wX3 X q1 q3 u4 ++ wX8 X q1 q3 q5 u6 ++ wX7 X q1 q3 q7 u8 ++ wX4 X q9 u10 ++ wX0 X q11 u12)) H locs := h
  refine i_pc (pc' := 87) (c' := 104) (s' := 1379) rfl rfl rfl ?_
  refine i_putF (ty := .object "QueryHarbor$Answer") (k := 5) (T := TX10) (v := .ref q11) B hin h rfl in_X10 tyX10 tyX10_ok nmX10 (by decide) kf_X10_51 rfl rfl (by decide +kernel) rfl rfl (Nat.le_of_ble_eq_true rfl) dX10_init_87 (fun H locs h => ?_)
  have h : HI X A s ((h0, .inr (10, [.ref q1, .ref q3, .ref q5, .ref q7, .ref q9, .ref q11, .null, .null, .null])) :: (wX9 X q1 u2 ++ wX3 X q1 q3 u4 ++ wX8 X q1 q3 q5 u6 ++ wX7 X q1 q3 q7 u8 ++ wX4 X q9 u10 ++ wX0 X q11 u12)) H locs := h
  refine i_pc (pc' := 90) (c' := 104) (s' := 1379) rfl rfl rfl ?_
  refine lv_aload_n B.hx B.hb dX10_init_90 rfl (lv_at hl 0 rfl) ?_
  refine i_new (ci := 0) (fs := [.null, .null, .null, .null, .null, .int 0, .int 0, .int 0, .int 0, .int 0, .int 0, .int 0, .int 0]) B h hA rfl in_X0 tyX0 tyX0_ok (big_at 302 (by decide +kernel) (by decide +kernel)) (big_at 303 (by decide +kernel) (by decide +kernel)) ki_X0 (fun j hj => by rcases (show j = 0 ∨ j = 1 ∨ j = 2 ∨ j = 3 ∨ j = 4 ∨ j = 5 ∨ j = 6 ∨ j = 7 ∨ j = 8 ∨ j = 9 ∨ j = 10 ∨ j = 11 ∨ j = 12 by omega) with rfl | rfl | rfl | rfl | rfl | rfl | rfl | rfl | rfl | rfl | rfl | rfl | rfl <;> rfl) (Nat.le_of_ble_eq_true rfl) (Nat.le_of_ble_eq_true rfl) dX10_init_91 (fun q13 H h => ?_)
  refine lv_dup B.hx B.hb dX10_init_94 rfl ?_
  refine i_callI (As := []) (rest := [.ref q13, .ref h0]) (n := 0) B h hA (c_X0_init l X q13  H.size) hl.1 kc_X0_init (big_at 304 (by decide +kernel) (by decide +kernel)) ki_X0 kn_X0_init rfl ⟨by decide +kernel, by decide +kernel, by decide +kernel⟩ rfl rfl rfl ⟨(Nat.le_of_ble_eq_true rfl), (Nat.le_of_ble_eq_true rfl)⟩ (Nat.le_of_ble_eq_true rfl) ⟨(Nat.le_of_ble_eq_true rfl), (Nat.le_of_ble_eq_true rfl)⟩ dX10_init_95 rfl (fun u14 H locs h => ?_)
  have h : HI X A s ((h0, .inr (10, [.ref q1, .ref q3, .ref q5, .ref q7, .ref q9, .ref q11, .null, .null, .null])) :: (wX9 X q1 u2 ++ wX3 X q1 q3 u4 ++ wX8 X q1 q3 q5 u6 ++ wX7 X q1 q3 q7 u8 ++ wX4 X q9 u10 ++ wX0 X q11 u12 ++ wX0 X q13 u14)) H locs := h
  refine i_pc (pc' := 98) (c' := 119) (s' := 1713) rfl rfl rfl ?_
  refine i_putF (ty := .object "QueryHarbor$Answer") (k := 6) (T := TX10) (v := .ref q13) B hin h rfl in_X10 tyX10 tyX10_ok nmX10 (by decide) kf_X10_55 rfl rfl (by decide +kernel) rfl rfl (Nat.le_of_ble_eq_true rfl) dX10_init_98 (fun H locs h => ?_)
  have h : HI X A s ((h0, .inr (10, [.ref q1, .ref q3, .ref q5, .ref q7, .ref q9, .ref q11, .ref q13, .null, .null])) :: (wX9 X q1 u2 ++ wX3 X q1 q3 u4 ++ wX8 X q1 q3 q5 u6 ++ wX7 X q1 q3 q7 u8 ++ wX4 X q9 u10 ++ wX0 X q11 u12 ++ wX0 X q13 u14)) H locs := h
  refine i_pc (pc' := 101) (c' := 119) (s' := 1713) rfl rfl rfl ?_
  refine lv_aload_n B.hx B.hb dX10_init_101 rfl (lv_at hl 0 rfl) ?_
  refine i_new (ci := 1) (fs := [.null, .null, .null, .null, .null, .null, .int 0, .int 0, .int 0, .int 0, .int 0]) B h hA rfl in_X1 tyX1 tyX1_ok (big_at 369 (by decide +kernel) (by decide +kernel)) (big_at 370 (by decide +kernel) (by decide +kernel)) ki_X1 (fun j hj => by rcases (show j = 0 ∨ j = 1 ∨ j = 2 ∨ j = 3 ∨ j = 4 ∨ j = 5 ∨ j = 6 ∨ j = 7 ∨ j = 8 ∨ j = 9 ∨ j = 10 by omega) with rfl | rfl | rfl | rfl | rfl | rfl | rfl | rfl | rfl | rfl | rfl <;> rfl) (Nat.le_of_ble_eq_true rfl) (Nat.le_of_ble_eq_true rfl) dX10_init_102 (fun q15 H h => ?_)
  refine lv_dup B.hx B.hb dX10_init_105 rfl ?_
  refine lv_aload_n B.hx B.hb dX10_init_106 rfl (lv_at hl 0 rfl) ?_
  refine i_getf B h 0 (k := 2) (T := TX10) rfl rfl in_X10 (by decide) kf_X10_30 rfl dX10_init_107 ?_
  refine lv_aload_n B.hx B.hb dX10_init_110 rfl (lv_at hl 0 rfl) ?_
  refine i_getf B h 0 (k := 3) (T := TX10) rfl rfl in_X10 (by decide) kf_X10_37 rfl dX10_init_111 ?_
  refine lv_aload_n B.hx B.hb dX10_init_114 rfl (lv_at hl 0 rfl) ?_
  refine i_getf B h 0 (k := 1) (T := TX10) rfl rfl in_X10 (by decide) kf_X10_21 rfl dX10_init_115 ?_
  refine lv_aload_n B.hx B.hb dX10_init_118 rfl (lv_at hl 0 rfl) ?_
  refine i_getf B h 0 (k := 4) (T := TX10) rfl rfl in_X10 (by decide) kf_X10_44 rfl dX10_init_119 ?_
  refine lv_aload_n B.hx B.hb dX10_init_122 rfl (lv_at hl 0 rfl) ?_
  refine i_getf B h 0 (k := 5) (T := TX10) rfl rfl in_X10 (by decide) kf_X10_51 rfl dX10_init_123 ?_
  refine i_callI (As := [.ref q5, .ref q7, .ref q3, .ref q9, .ref q11]) (rest := [.ref q15, .ref h0]) (n := 5) B h hA (c_X1_init l X q15 q5 q7 q3 q9 q11 H.size) hl.1 kc_X1_init (big_at 371 (by decide +kernel) (by decide +kernel)) ki_X1 kn_X1_init rfl ⟨by decide +kernel, by decide +kernel, by decide +kernel⟩ rfl rfl rfl ⟨(Nat.le_of_ble_eq_true rfl), (Nat.le_of_ble_eq_true rfl)⟩ (Nat.le_of_ble_eq_true rfl) ⟨(Nat.le_of_ble_eq_true rfl), (Nat.le_of_ble_eq_true rfl)⟩ dX10_init_126 rfl (fun u16 H locs h => ?_)
  have h : HI X A s ((h0, .inr (10, [.ref q1, .ref q3, .ref q5, .ref q7, .ref q9, .ref q11, .ref q13, .null, .null])) :: (wX9 X q1 u2 ++ wX3 X q1 q3 u4 ++ wX8 X q1 q3 q5 u6 ++ wX7 X q1 q3 q7 u8 ++ wX4 X q9 u10 ++ wX0 X q11 u12 ++ wX0 X q13 u14 ++ wX1 X q5 q7 q3 q9 q11 q15 u16)) H locs := h
  refine i_pc (pc' := 129) (c' := 121) (s' := 1736) rfl rfl rfl ?_
  refine i_putF (ty := .object "QueryHarbor$Asker") (k := 7) (T := TX10) (v := .ref q15) B hin h rfl in_X10 tyX10 tyX10_ok nmX10 (by decide) kf_X10_63 rfl rfl (by decide +kernel) rfl rfl (Nat.le_of_ble_eq_true rfl) dX10_init_129 (fun H locs h => ?_)
  have h : HI X A s ((h0, .inr (10, [.ref q1, .ref q3, .ref q5, .ref q7, .ref q9, .ref q11, .ref q13, .ref q15, .null])) :: (wX9 X q1 u2 ++ wX3 X q1 q3 u4 ++ wX8 X q1 q3 q5 u6 ++ wX7 X q1 q3 q7 u8 ++ wX4 X q9 u10 ++ wX0 X q11 u12 ++ wX0 X q13 u14 ++ wX1 X q5 q7 q3 q9 q11 q15 u16)) H locs := h
  refine i_pc (pc' := 132) (c' := 121) (s' := 1736) rfl rfl rfl ?_
  refine lv_aload_n B.hx B.hb dX10_init_132 rfl (lv_at hl 0 rfl) ?_
  refine i_new (ci := 2) (fs := [.null, .null, .null, .null, .null, .null, .null, .null, .null, .int 0]) B h hA rfl in_X2 tyX2 tyX2_ok (big_at 409 (by decide +kernel) (by decide +kernel)) (big_at 410 (by decide +kernel) (by decide +kernel)) ki_X2 (fun j hj => by rcases (show j = 0 ∨ j = 1 ∨ j = 2 ∨ j = 3 ∨ j = 4 ∨ j = 5 ∨ j = 6 ∨ j = 7 ∨ j = 8 ∨ j = 9 by omega) with rfl | rfl | rfl | rfl | rfl | rfl | rfl | rfl | rfl | rfl <;> rfl) (Nat.le_of_ble_eq_true rfl) (Nat.le_of_ble_eq_true rfl) dX10_init_133 (fun q17 H h => ?_)
  refine lv_dup B.hx B.hb dX10_init_136 rfl ?_
  refine lv_aload_n B.hx B.hb dX10_init_137 rfl (lv_at hl 0 rfl) ?_
  refine i_getf B h 0 (k := 2) (T := TX10) rfl rfl in_X10 (by decide) kf_X10_30 rfl dX10_init_138 ?_
  refine lv_aload_n B.hx B.hb dX10_init_141 rfl (lv_at hl 0 rfl) ?_
  refine i_getf B h 0 (k := 3) (T := TX10) rfl rfl in_X10 (by decide) kf_X10_37 rfl dX10_init_142 ?_
  refine i_callI (As := [.ref q5, .ref q7]) (rest := [.ref q17, .ref h0]) (n := 2) B h hA (c_X2_init l X q17 q5 q7 H.size) hl.1 kc_X2_init (big_at 411 (by decide +kernel) (by decide +kernel)) ki_X2 kn_X2_init rfl ⟨by decide +kernel, by decide +kernel, by decide +kernel⟩ rfl rfl rfl ⟨(Nat.le_of_ble_eq_true rfl), (Nat.le_of_ble_eq_true rfl)⟩ (Nat.le_of_ble_eq_true rfl) ⟨(Nat.le_of_ble_eq_true rfl), (Nat.le_of_ble_eq_true rfl)⟩ dX10_init_145 rfl (fun u18 H locs h => ?_)
  have h : HI X A s ((h0, .inr (10, [.ref q1, .ref q3, .ref q5, .ref q7, .ref q9, .ref q11, .ref q13, .ref q15, .null])) :: (wX9 X q1 u2 ++ wX3 X q1 q3 u4 ++ wX8 X q1 q3 q5 u6 ++ wX7 X q1 q3 q7 u8 ++ wX4 X q9 u10 ++ wX0 X q11 u12 ++ wX0 X q13 u14 ++ wX1 X q5 q7 q3 q9 q11 q15 u16 ++ wX2 X q5 q7 q17 u18)) H locs := h
  refine i_pc (pc' := 148) (c' := 141) (s' := 2038) rfl rfl rfl ?_
  refine i_putF (ty := .object "QueryHarbor$Bundle") (k := 8) (T := TX10) (v := .ref q17) B hin h rfl in_X10 tyX10 tyX10_ok nmX10 (by decide) kf_X10_72 rfl rfl (by decide +kernel) rfl rfl (Nat.le_of_ble_eq_true rfl) dX10_init_148 (fun H locs h => ?_)
  have h : HI X A s ((h0, .inr (10, [.ref q1, .ref q3, .ref q5, .ref q7, .ref q9, .ref q11, .ref q13, .ref q15, .ref q17])) :: (wX9 X q1 u2 ++ wX3 X q1 q3 u4 ++ wX8 X q1 q3 q5 u6 ++ wX7 X q1 q3 q7 u8 ++ wX4 X q9 u10 ++ wX0 X q11 u12 ++ wX0 X q13 u14 ++ wX1 X q5 q7 q3 q9 q11 q15 u16 ++ wX2 X q5 q7 q17 u18)) H locs := h
  refine i_pc (pc' := 151) (c' := 141) (s' := 2038) rfl rfl rfl ?_
  obtain ⟨U, hU⟩ : ∃ U : Nat → Nat, U = (fun i => (if i < 80 then (if i < 48 then (if i < 2 then q1 else (if i = 2 then q3 else u4 (i - 2))) else (if i < 57 then (if i = 48 then q5 else u6 (i - 48)) else (if i = 57 then q7 else u8 (i - 57)))) else (if i < 105 then (if i < 90 then (if i = 80 then q9 else u10 (i - 80)) else (if i = 90 then q11 else u12 (i - 90))) else (if i < 120 then (if i = 105 then q13 else u14 (i - 105)) else (if i < 122 then (if i = 120 then q15 else u16 (i - 120)) else (if i = 122 then q17 else u18 (i - 122))))))) := ⟨_, rfl⟩
  have hq1 : U 1 = q1 := by rw [hU]; rfl
  have hq2 : U 2 = q3 := by rw [hU]; rfl
  have hq48 : U 48 = q5 := by rw [hU]; rfl
  have hq57 : U 57 = q7 := by rw [hU]; rfl
  have hq80 : U 80 = q9 := by rw [hU]; rfl
  have hq90 : U 90 = q11 := by rw [hU]; rfl
  have hq105 : U 105 = q13 := by rw [hU]; rfl
  have hq120 : U 120 = q15 := by rw [hU]; rfl
  have hq122 : U 122 = q17 := by rw [hU]; rfl
  have e1 : wX9 X (U 1) (fun i => U (1 + i)) = wX9 X q1 u2 := by
    rw [hq1]
    exact wX9_cg X _ (fun i h1 h2 => by omega)
  have hb2 : ∀ i, 1 ≤ i → i < 46 → U (2 + i) = u4 i := by
    intro i h1 h2
    rw [hU]
    dsimp only
    rw [if_pos (by omega), if_pos (by omega), if_neg (by omega), if_neg (by omega), show 2 + i - 2 = i by omega]
  have e2 : wX3 X (U 1) (U 2) (fun i => U (2 + i)) = wX3 X q1 q3 u4 := by
    rw [hq1, hq2]
    exact wX3_cg X _ _ hb2
  have hb48 : ∀ i, 1 ≤ i → i < 9 → U (48 + i) = u6 i := by
    intro i h1 h2
    rw [hU]
    dsimp only
    rw [if_pos (by omega), if_neg (by omega), if_pos (by omega), if_neg (by omega), show 48 + i - 48 = i by omega]
  have e48 : wX8 X (U 1) (U 2) (U 48) (fun i => U (48 + i)) = wX8 X q1 q3 q5 u6 := by
    rw [hq1, hq2, hq48]
    exact wX8_cg X _ _ _ hb48
  have hb57 : ∀ i, 1 ≤ i → i < 23 → U (57 + i) = u8 i := by
    intro i h1 h2
    rw [hU]
    dsimp only
    rw [if_pos (by omega), if_neg (by omega), if_neg (by omega), if_neg (by omega), show 57 + i - 57 = i by omega]
  have e57 : wX7 X (U 1) (U 2) (U 57) (fun i => U (57 + i)) = wX7 X q1 q3 q7 u8 := by
    rw [hq1, hq2, hq57]
    exact wX7_cg X _ _ _ hb57
  have hb80 : ∀ i, 1 ≤ i → i < 10 → U (80 + i) = u10 i := by
    intro i h1 h2
    rw [hU]
    dsimp only
    rw [if_neg (by omega), if_pos (by omega), if_pos (by omega), if_neg (by omega), show 80 + i - 80 = i by omega]
  have e80 : wX4 X (U 80) (fun i => U (80 + i)) = wX4 X q9 u10 := by
    rw [hq80]
    exact wX4_cg X _ hb80
  have hb90 : ∀ i, 1 ≤ i → i < 15 → U (90 + i) = u12 i := by
    intro i h1 h2
    rw [hU]
    dsimp only
    rw [if_neg (by omega), if_pos (by omega), if_neg (by omega), if_neg (by omega), show 90 + i - 90 = i by omega]
  have e90 : wX0 X (U 90) (fun i => U (90 + i)) = wX0 X q11 u12 := by
    rw [hq90]
    exact wX0_cg X _ hb90
  have hb105 : ∀ i, 1 ≤ i → i < 15 → U (105 + i) = u14 i := by
    intro i h1 h2
    rw [hU]
    dsimp only
    rw [if_neg (by omega), if_neg (by omega), if_pos (by omega), if_neg (by omega), show 105 + i - 105 = i by omega]
  have e105 : wX0 X (U 105) (fun i => U (105 + i)) = wX0 X q13 u14 := by
    rw [hq105]
    exact wX0_cg X _ hb105
  have hb120 : ∀ i, 1 ≤ i → i < 2 → U (120 + i) = u16 i := by
    intro i h1 h2
    rw [hU]
    dsimp only
    rw [if_neg (by omega), if_neg (by omega), if_neg (by omega), if_pos (by omega), if_neg (by omega), show 120 + i - 120 = i by omega]
  have e120 : wX1 X (U 48) (U 57) (U 2) (U 80) (U 90) (U 120) (fun i => U (120 + i)) = wX1 X q5 q7 q3 q9 q11 q15 u16 := by
    rw [hq2, hq48, hq57, hq80, hq90, hq120]
    exact wX1_cg X _ _ _ _ _ _ hb120
  have hb122 : ∀ i, 1 ≤ i → i < 20 → U (122 + i) = u18 i := by
    intro i h1 h2
    rw [hU]
    dsimp only
    rw [if_neg (by omega), if_neg (by omega), if_neg (by omega), if_neg (by omega), if_neg (by omega), show 122 + i - 122 = i by omega]
  have e122 : wX2 X (U 48) (U 57) (U 122) (fun i => U (122 + i)) = wX2 X q5 q7 q17 u18 := by
    rw [hq48, hq57, hq122]
    exact wX2_cg X _ _ _ hb122
  exact i_vret B hr hlk h U (by unfold wX10; rw [e1, e2, e48, e57, e80, e90, e105, e120, e122, hq1, hq2, hq48, hq57, hq80, hq90, hq105, hq120, hq122]) dX10_init_151
