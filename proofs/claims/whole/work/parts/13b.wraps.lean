abbrev rmw_add : Room := { frames := 9, cells := 3, slots := 18, locals := 156 }
set_option maxRecDepth 100000 in
set_option maxHeartbeats 4000000 in
theorem c_L_add (l : Launch) (hfl : l.stackTraces = false) (X : XT) (o : Nat) (p1 : Int32) (p2 : Int32) (p3 : Int32) (p4 : Int32) (p5 : Int32) (M : Mem) (f : Nat → Int64) (rs : XR) (hf : f_X10_add 5000 p1 p2 p3 p4 p5 M = some rs) (hk : kk kmI rs.1) (sz : Nat) : vx_Met l yL_add (Cond.codeWith yL_add cL_add 8 (some .int) [(0, 16, 19, 13), (0, 16, 23, 15), (0, 16, 27, 17)] :: BIG) rmw_add (va_Pc [.ref (X.2.2 0), .int p1, .int p2, .int p3, .int p4, .int p5, .ref o] (PO X o M f sz)) (WQ X o kmI pvI rs sz) (WX X o sz) 3 18 (AO X o sz) := by
  refine wx_go (by decide +kernel) (Nat.le_of_ble_eq_true rfl) ?_
  intro p e s m args below meth c hsz B hr hlk hxt hw ls hl
  subst hsz
  have hl : lv_has ls 8 [(0, .ref (X.2.2 0)), (1, .int p1), (2, .int p2), (3, .int p3), (4, .int p4), (5, .int p5), (6, .ref o)] := hl
  have h123 : rs.1 = 0 ∨ rs.1 = 1 ∨ rs.1 = 2 ∨ rs.1 = 3 := by have := hk.1; omega
  refine lv_aload B.hx B.hb dL_add_0 (lv_at hl 6 rfl) ?_
  refine lv_iconst (v := 0) B.hx B.hb dL_add_2 (by decide) ?_
  refine lv_aload_n B.hx B.hb dL_add_3 rfl (lv_at hl 0 rfl) ?_
  refine lv_iload_n B.hx B.hb dL_add_4 rfl (lv_at hl 1 rfl) ?_
  refine lv_iload_n B.hx B.hb dL_add_5 rfl (lv_at hl 2 rfl) ?_
  refine lv_iload_n B.hx B.hb dL_add_6 rfl (lv_at hl 3 rfl) ?_
  refine lv_iload B.hx B.hb dL_add_7 (lv_at hl 4 rfl) ?_
  refine lv_iload B.hx B.hb dL_add_9 (lv_at hl 5 rfl) ?_
  refine w_calli (As := [.int p1, .int p2, .int p3, .int p4, .int p5]) (rest := [.int 0, .ref o]) B hw (c_X10_add l hfl X 5000 p1 p2 p3 p4 p5 M rs hf _) cv_L_7 rfl rfl hl.1 rfl rfl ⟨(Nat.le_of_ble_eq_true rfl), (Nat.le_of_ble_eq_true rfl)⟩ (Nat.le_of_ble_eq_true rfl) ⟨(Nat.le_of_ble_eq_true rfl), (Nat.le_of_ble_eq_true rfl)⟩ dL_add_11 rfl (fun E ce q9 H locs h0 hE hw hce hcv hcl => ?_) (fun h0 H locs hw => ?_)
  · rcases h123 with h | h | h | h
    · exact absurd h h0
    · rw [h] at hE
      subst hE
      refine vx_catch (own := RL) (name := exn 1) B.hown (tableOf []) ⟨0, 16, 19, 13⟩ (tableOf [(0, 16, 23, 15), (0, 16, 27, 17)]) hxt (fun _ h9 => nomatch h9) (by decide) (by decide) (B.hts _ bl_1) (w_cast B 1 (by decide) (by decide)) hce hcv hcl ?_
      refine lv_astore (lv' := [(7, .ref q9), (0, .ref (X.2.2 0)), (1, .int p1), (2, .int p2), (3, .int p3), (4, .int p4), (5, .int p5), (6, .ref o)]) B.hx B.hb dL_add_19 hl (by decide) rfl (fun ls hl => ?_)
      refine lv_iconst (v := 1) B.hx B.hb dL_add_21 (by decide) ?_
      exact w_iret B hr hlk hw (by rw [h]; decide) (fun h9 => absurd h9 h0) (Nat.le_of_ble_eq_true rfl) (Nat.le_of_ble_eq_true rfl) dL_add_22
    · rw [h] at hE
      subst hE
      refine vx_catch (own := RL) (name := exn 2) B.hown (tableOf [(0, 16, 19, 13)]) ⟨0, 16, 23, 15⟩ (tableOf [(0, 16, 27, 17)]) hxt (List.forall_mem_cons.mpr ⟨w_ps1 B 2 (by decide) (by decide) (by decide), (fun _ h9 => nomatch h9)⟩) (by decide) (by decide) (B.hts _ bl_2) (w_cast B 2 (by decide) (by decide)) hce hcv hcl ?_
      refine lv_astore (lv' := [(7, .ref q9), (0, .ref (X.2.2 0)), (1, .int p1), (2, .int p2), (3, .int p3), (4, .int p4), (5, .int p5), (6, .ref o)]) B.hx B.hb dL_add_23 hl (by decide) rfl (fun ls hl => ?_)
      refine lv_iconst (v := 2) B.hx B.hb dL_add_25 (by decide) ?_
      exact w_iret B hr hlk hw (by rw [h]; decide) (fun h9 => absurd h9 h0) (Nat.le_of_ble_eq_true rfl) (Nat.le_of_ble_eq_true rfl) dL_add_26
    · rw [h] at hE
      subst hE
      refine vx_catch (own := RL) (name := exn 3) B.hown (tableOf [(0, 16, 19, 13), (0, 16, 23, 15)]) ⟨0, 16, 27, 17⟩ (tableOf []) hxt (List.forall_mem_cons.mpr ⟨w_ps1 B 3 (by decide) (by decide) (by decide), (List.forall_mem_cons.mpr ⟨w_ps2 B 3 (by decide) (by decide) (by decide), (fun _ h9 => nomatch h9)⟩)⟩) (by decide) (by decide) (B.hts _ bl_3) (w_cast B 3 (by decide) (by decide)) hce hcv hcl ?_
      refine lv_astore (lv' := [(7, .ref q9), (0, .ref (X.2.2 0)), (1, .int p1), (2, .int p2), (3, .int p3), (4, .int p4), (5, .int p5), (6, .ref o)]) B.hx B.hb dL_add_27 hl (by decide) rfl (fun ls hl => ?_)
      refine lv_iconst (v := 3) B.hx B.hb dL_add_29 (by decide) ?_
      exact w_iret B hr hlk hw (by rw [h]; decide) (fun h9 => absurd h9 h0) (Nat.le_of_ble_eq_true rfl) (Nat.le_of_ble_eq_true rfl) dL_add_30
  · refine lv_i2l (v := rs.2.1.toInt64) B.hx B.hb dL_add_14 rfl ?_
    refine w_last B hw dL_add_15 (fun H locs hw => ?_)
    refine lv_goto (tgt := 31) B.hx B.hb dL_add_16 (by decide) ?_
    refine lv_iconst (v := 0) B.hx B.hb dL_add_31 (by decide) ?_
    exact w_iret B hr hlk hw (by rw [h0]; decide) (fun _ => rfl) (Nat.le_of_ble_eq_true rfl) (Nat.le_of_ble_eq_true rfl) dL_add_32
abbrev rmw_change : Room := { frames := 10, cells := 4, slots := 24, locals := 178 }
set_option maxRecDepth 100000 in
set_option maxHeartbeats 4000000 in
theorem c_L_change (l : Launch) (hfl : l.stackTraces = false) (X : XT) (o : Nat) (p1 : Int32) (p2 : Int32) (p3 : Int32) (p4 : Int32) (M : Mem) (f : Nat → Int64) (rs : XR) (hf : f_X10_change 5000 p1 p2 p3 p4 M = some rs) (hk : kk kmB rs.1) (sz : Nat) : vx_Met l yL_change (Cond.codeWith yL_change cL_change 7 (some .int) [(0, 14, 17, 13), (0, 14, 21, 15)] :: BIG) rmw_change (va_Pc [.ref (X.2.2 0), .int p1, .int p2, .int p3, .int p4, .ref o] (PO X o M f sz)) (WQ X o kmB pvI rs sz) (WX X o sz) 4 24 (AO X o sz) := by
  refine wx_go (by decide +kernel) (Nat.le_of_ble_eq_true rfl) ?_
  intro p e s m args below meth c hsz B hr hlk hxt hw ls hl
  subst hsz
  have hl : lv_has ls 7 [(0, .ref (X.2.2 0)), (1, .int p1), (2, .int p2), (3, .int p3), (4, .int p4), (5, .ref o)] := hl
  have h123 : rs.1 = 0 ∨ rs.1 = 1 ∨ rs.1 = 2 ∨ rs.1 = 3 := by have := hk.1; omega
  refine lv_aload B.hx B.hb dL_change_0 (lv_at hl 5 rfl) ?_
  refine lv_iconst (v := 0) B.hx B.hb dL_change_2 (by decide) ?_
  refine lv_aload_n B.hx B.hb dL_change_3 rfl (lv_at hl 0 rfl) ?_
  refine lv_iload_n B.hx B.hb dL_change_4 rfl (lv_at hl 1 rfl) ?_
  refine lv_iload_n B.hx B.hb dL_change_5 rfl (lv_at hl 2 rfl) ?_
  refine lv_iload_n B.hx B.hb dL_change_6 rfl (lv_at hl 3 rfl) ?_
  refine lv_iload B.hx B.hb dL_change_7 (lv_at hl 4 rfl) ?_
  refine w_calli (As := [.int p1, .int p2, .int p3, .int p4]) (rest := [.int 0, .ref o]) B hw (c_X10_change l hfl X 5000 p1 p2 p3 p4 M rs hf _) cv_L_19 rfl rfl hl.1 rfl rfl ⟨(Nat.le_of_ble_eq_true rfl), (Nat.le_of_ble_eq_true rfl)⟩ (Nat.le_of_ble_eq_true rfl) ⟨(Nat.le_of_ble_eq_true rfl), (Nat.le_of_ble_eq_true rfl)⟩ dL_change_9 rfl (fun E ce q9 H locs h0 hE hw hce hcv hcl => ?_) (fun h0 H locs hw => ?_)
  · rcases h123 with h | h | h | h
    · exact absurd h h0
    · rw [h] at hE
      subst hE
      refine vx_catch (own := RL) (name := exn 1) B.hown (tableOf []) ⟨0, 14, 17, 13⟩ (tableOf [(0, 14, 21, 15)]) hxt (fun _ h9 => nomatch h9) (by decide) (by decide) (B.hts _ bl_1) (w_cast B 1 (by decide) (by decide)) hce hcv hcl ?_
      refine lv_astore (lv' := [(6, .ref q9), (0, .ref (X.2.2 0)), (1, .int p1), (2, .int p2), (3, .int p3), (4, .int p4), (5, .ref o)]) B.hx B.hb dL_change_17 hl (by decide) rfl (fun ls hl => ?_)
      refine lv_iconst (v := 1) B.hx B.hb dL_change_19 (by decide) ?_
      exact w_iret B hr hlk hw (by rw [h]; decide) (fun h9 => absurd h9 h0) (Nat.le_of_ble_eq_true rfl) (Nat.le_of_ble_eq_true rfl) dL_change_20
    · rw [h] at hE
      subst hE
      refine vx_catch (own := RL) (name := exn 2) B.hown (tableOf [(0, 14, 17, 13)]) ⟨0, 14, 21, 15⟩ (tableOf []) hxt (List.forall_mem_cons.mpr ⟨w_ps1 B 2 (by decide) (by decide) (by decide), (fun _ h9 => nomatch h9)⟩) (by decide) (by decide) (B.hts _ bl_2) (w_cast B 2 (by decide) (by decide)) hce hcv hcl ?_
      refine lv_astore (lv' := [(6, .ref q9), (0, .ref (X.2.2 0)), (1, .int p1), (2, .int p2), (3, .int p3), (4, .int p4), (5, .ref o)]) B.hx B.hb dL_change_21 hl (by decide) rfl (fun ls hl => ?_)
      refine lv_iconst (v := 2) B.hx B.hb dL_change_23 (by decide) ?_
      exact w_iret B hr hlk hw (by rw [h]; decide) (fun h9 => absurd h9 h0) (Nat.le_of_ble_eq_true rfl) (Nat.le_of_ble_eq_true rfl) dL_change_24
    · exact absurd hk.2.1 (by rw [h]; decide)
  · refine lv_i2l (v := rs.2.1.toInt64) B.hx B.hb dL_change_12 rfl ?_
    refine w_last B hw dL_change_13 (fun H locs hw => ?_)
    refine lv_goto (tgt := 25) B.hx B.hb dL_change_14 (by decide) ?_
    refine lv_iconst (v := 0) B.hx B.hb dL_change_25 (by decide) ?_
    exact w_iret B hr hlk hw (by rw [h0]; decide) (fun _ => rfl) (Nat.le_of_ble_eq_true rfl) (Nat.le_of_ble_eq_true rfl) dL_change_26
abbrev rmw_remove : Room := { frames := 9, cells := 2, slots := 12, locals := 153 }
set_option maxRecDepth 100000 in
set_option maxHeartbeats 4000000 in
theorem c_L_remove (l : Launch) (hfl : l.stackTraces = false) (X : XT) (o : Nat) (p1 : Int32) (p2 : Int32) (M : Mem) (f : Nat → Int64) (rs : XR) (hf : f_X10_remove 5000 p1 p2 M = some rs) (hk : kk kmC rs.1) (sz : Nat) : vx_Met l yL_remove (Cond.codeWith yL_remove cL_remove 5 (some .int) [(0, 10, 13, 13)] :: BIG) rmw_remove (va_Pc [.ref (X.2.2 0), .int p1, .int p2, .ref o] (PO X o M f sz)) (WQ X o kmC pvI rs sz) (WX X o sz) 2 12 (AO X o sz) := by
  refine wx_go (by decide +kernel) (Nat.le_of_ble_eq_true rfl) ?_
  intro p e s m args below meth c hsz B hr hlk hxt hw ls hl
  subst hsz
  have hl : lv_has ls 5 [(0, .ref (X.2.2 0)), (1, .int p1), (2, .int p2), (3, .ref o)] := hl
  have h123 : rs.1 = 0 ∨ rs.1 = 1 ∨ rs.1 = 2 ∨ rs.1 = 3 := by have := hk.1; omega
  refine lv_aload_n B.hx B.hb dL_remove_0 rfl (lv_at hl 3 rfl) ?_
  refine lv_iconst (v := 0) B.hx B.hb dL_remove_1 (by decide) ?_
  refine lv_aload_n B.hx B.hb dL_remove_2 rfl (lv_at hl 0 rfl) ?_
  refine lv_iload_n B.hx B.hb dL_remove_3 rfl (lv_at hl 1 rfl) ?_
  refine lv_iload_n B.hx B.hb dL_remove_4 rfl (lv_at hl 2 rfl) ?_
  refine w_calli (As := [.int p1, .int p2]) (rest := [.int 0, .ref o]) B hw (c_X10_remove l hfl X 5000 p1 p2 M rs hf _) cv_L_23 rfl rfl hl.1 rfl rfl ⟨(Nat.le_of_ble_eq_true rfl), (Nat.le_of_ble_eq_true rfl)⟩ (Nat.le_of_ble_eq_true rfl) ⟨(Nat.le_of_ble_eq_true rfl), (Nat.le_of_ble_eq_true rfl)⟩ dL_remove_5 rfl (fun E ce q9 H locs h0 hE hw hce hcv hcl => ?_) (fun h0 H locs hw => ?_)
  · rcases h123 with h | h | h | h
    · exact absurd h h0
    · rw [h] at hE
      subst hE
      refine vx_catch (own := RL) (name := exn 1) B.hown (tableOf []) ⟨0, 10, 13, 13⟩ (tableOf []) hxt (fun _ h9 => nomatch h9) (by decide) (by decide) (B.hts _ bl_1) (w_cast B 1 (by decide) (by decide)) hce hcv hcl ?_
      refine lv_astore (lv' := [(4, .ref q9), (0, .ref (X.2.2 0)), (1, .int p1), (2, .int p2), (3, .ref o)]) B.hx B.hb dL_remove_13 hl (by decide) rfl (fun ls hl => ?_)
      refine lv_iconst (v := 1) B.hx B.hb dL_remove_15 (by decide) ?_
      exact w_iret B hr hlk hw (by rw [h]; decide) (fun h9 => absurd h9 h0) (Nat.le_of_ble_eq_true rfl) (Nat.le_of_ble_eq_true rfl) dL_remove_16
    · exact absurd hk.2.1 (by rw [h]; decide)
    · exact absurd hk.2.1 (by rw [h]; decide)
  · refine lv_i2l (v := rs.2.1.toInt64) B.hx B.hb dL_remove_8 rfl ?_
    refine w_last B hw dL_remove_9 (fun H locs hw => ?_)
    refine lv_goto (tgt := 17) B.hx B.hb dL_remove_10 (by decide) ?_
    refine lv_iconst (v := 0) B.hx B.hb dL_remove_17 (by decide) ?_
    exact w_iret B hr hlk hw (by rw [h0]; decide) (fun _ => rfl) (Nat.le_of_ble_eq_true rfl) (Nat.le_of_ble_eq_true rfl) dL_remove_18
abbrev rmw_count : Room := { frames := 9, cells := 1, slots := 6, locals := 152 }
set_option maxRecDepth 100000 in
set_option maxHeartbeats 4000000 in
theorem c_L_count (l : Launch) (hfl : l.stackTraces = false) (X : XT) (o : Nat) (p1 : Int32) (M : Mem) (f : Nat → Int64) (rs : XR) (hf : f_X10_count 5000 p1 M = some rs) (hk : kk kmC rs.1) (sz : Nat) : vx_Met l yL_count (Cond.codeWith yL_count cL_count 4 (some .int) [(0, 9, 12, 13)] :: BIG) rmw_count (va_Pc [.ref (X.2.2 0), .int p1, .ref o] (PO X o M f sz)) (WQ X o kmC pvI rs sz) (WX X o sz) 1 6 (AO X o sz) := by
  refine wx_go (by decide +kernel) (Nat.le_of_ble_eq_true rfl) ?_
  intro p e s m args below meth c hsz B hr hlk hxt hw ls hl
  subst hsz
  have hl : lv_has ls 4 [(0, .ref (X.2.2 0)), (1, .int p1), (2, .ref o)] := hl
  have h123 : rs.1 = 0 ∨ rs.1 = 1 ∨ rs.1 = 2 ∨ rs.1 = 3 := by have := hk.1; omega
  refine lv_aload_n B.hx B.hb dL_count_0 rfl (lv_at hl 2 rfl) ?_
  refine lv_iconst (v := 0) B.hx B.hb dL_count_1 (by decide) ?_
  refine lv_aload_n B.hx B.hb dL_count_2 rfl (lv_at hl 0 rfl) ?_
  refine lv_iload_n B.hx B.hb dL_count_3 rfl (lv_at hl 1 rfl) ?_
  refine w_calli (As := [.int p1]) (rest := [.int 0, .ref o]) B hw (c_X10_count l hfl X 5000 p1 M rs hf _) cv_L_27 rfl rfl hl.1 rfl rfl ⟨(Nat.le_of_ble_eq_true rfl), (Nat.le_of_ble_eq_true rfl)⟩ (Nat.le_of_ble_eq_true rfl) ⟨(Nat.le_of_ble_eq_true rfl), (Nat.le_of_ble_eq_true rfl)⟩ dL_count_4 rfl (fun E ce q9 H locs h0 hE hw hce hcv hcl => ?_) (fun h0 H locs hw => ?_)
  · rcases h123 with h | h | h | h
    · exact absurd h h0
    · rw [h] at hE
      subst hE
      refine vx_catch (own := RL) (name := exn 1) B.hown (tableOf []) ⟨0, 9, 12, 13⟩ (tableOf []) hxt (fun _ h9 => nomatch h9) (by decide) (by decide) (B.hts _ bl_1) (w_cast B 1 (by decide) (by decide)) hce hcv hcl ?_
      refine lv_astore_n (lv' := [(3, .ref q9), (0, .ref (X.2.2 0)), (1, .int p1), (2, .ref o)]) B.hx B.hb dL_count_12 rfl hl (by decide) rfl (fun ls hl => ?_)
      refine lv_iconst (v := 1) B.hx B.hb dL_count_13 (by decide) ?_
      exact w_iret B hr hlk hw (by rw [h]; decide) (fun h9 => absurd h9 h0) (Nat.le_of_ble_eq_true rfl) (Nat.le_of_ble_eq_true rfl) dL_count_14
    · exact absurd hk.2.1 (by rw [h]; decide)
    · exact absurd hk.2.1 (by rw [h]; decide)
  · refine lv_i2l (v := rs.2.1.toInt64) B.hx B.hb dL_count_7 rfl ?_
    refine w_last B hw dL_count_8 (fun H locs hw => ?_)
    refine lv_goto (tgt := 15) B.hx B.hb dL_count_9 (by decide) ?_
    refine lv_iconst (v := 0) B.hx B.hb dL_count_15 (by decide) ?_
    exact w_iret B hr hlk hw (by rw [h0]; decide) (fun _ => rfl) (Nat.le_of_ble_eq_true rfl) (Nat.le_of_ble_eq_true rfl) dL_count_16
abbrev rmw_cell : Room := { frames := 10, cells := 3, slots := 18, locals := 178 }
set_option maxRecDepth 100000 in
set_option maxHeartbeats 4000000 in
theorem c_L_cell (l : Launch) (hfl : l.stackTraces = false) (X : XT) (o : Nat) (p1 : Int32) (p2 : Int32) (p3 : Int32) (M : Mem) (f : Nat → Int64) (rs : XR) (hf : f_X10_cell 5000 p1 p2 p3 M = some rs) (hk : kk kmC rs.1) (sz : Nat) : vx_Met l yL_cell (Cond.codeWith yL_cell cL_cell 6 (some .int) [(0, 12, 15, 13)] :: BIG) rmw_cell (va_Pc [.ref (X.2.2 0), .int p1, .int p2, .int p3, .ref o] (PO X o M f sz)) (WQ X o kmC pvI rs sz) (WX X o sz) 3 18 (AO X o sz) := by
  refine wx_go (by decide +kernel) (Nat.le_of_ble_eq_true rfl) ?_
  intro p e s m args below meth c hsz B hr hlk hxt hw ls hl
  subst hsz
  have hl : lv_has ls 6 [(0, .ref (X.2.2 0)), (1, .int p1), (2, .int p2), (3, .int p3), (4, .ref o)] := hl
  have h123 : rs.1 = 0 ∨ rs.1 = 1 ∨ rs.1 = 2 ∨ rs.1 = 3 := by have := hk.1; omega
  refine lv_aload B.hx B.hb dL_cell_0 (lv_at hl 4 rfl) ?_
  refine lv_iconst (v := 0) B.hx B.hb dL_cell_2 (by decide) ?_
  refine lv_aload_n B.hx B.hb dL_cell_3 rfl (lv_at hl 0 rfl) ?_
  refine lv_iload_n B.hx B.hb dL_cell_4 rfl (lv_at hl 1 rfl) ?_
  refine lv_iload_n B.hx B.hb dL_cell_5 rfl (lv_at hl 2 rfl) ?_
  refine lv_iload_n B.hx B.hb dL_cell_6 rfl (lv_at hl 3 rfl) ?_
  refine w_calli (As := [.int p1, .int p2, .int p3]) (rest := [.int 0, .ref o]) B hw (c_X10_cell l hfl X 5000 p1 p2 p3 M rs hf _) cv_L_31 rfl rfl hl.1 rfl rfl ⟨(Nat.le_of_ble_eq_true rfl), (Nat.le_of_ble_eq_true rfl)⟩ (Nat.le_of_ble_eq_true rfl) ⟨(Nat.le_of_ble_eq_true rfl), (Nat.le_of_ble_eq_true rfl)⟩ dL_cell_7 rfl (fun E ce q9 H locs h0 hE hw hce hcv hcl => ?_) (fun h0 H locs hw => ?_)
  · rcases h123 with h | h | h | h
    · exact absurd h h0
    · rw [h] at hE
      subst hE
      refine vx_catch (own := RL) (name := exn 1) B.hown (tableOf []) ⟨0, 12, 15, 13⟩ (tableOf []) hxt (fun _ h9 => nomatch h9) (by decide) (by decide) (B.hts _ bl_1) (w_cast B 1 (by decide) (by decide)) hce hcv hcl ?_
      refine lv_astore (lv' := [(5, .ref q9), (0, .ref (X.2.2 0)), (1, .int p1), (2, .int p2), (3, .int p3), (4, .ref o)]) B.hx B.hb dL_cell_15 hl (by decide) rfl (fun ls hl => ?_)
      refine lv_iconst (v := 1) B.hx B.hb dL_cell_17 (by decide) ?_
      exact w_iret B hr hlk hw (by rw [h]; decide) (fun h9 => absurd h9 h0) (Nat.le_of_ble_eq_true rfl) (Nat.le_of_ble_eq_true rfl) dL_cell_18
    · exact absurd hk.2.1 (by rw [h]; decide)
    · exact absurd hk.2.1 (by rw [h]; decide)
  · refine lv_i2l (v := rs.2.1.toInt64) B.hx B.hb dL_cell_10 rfl ?_
    refine w_last B hw dL_cell_11 (fun H locs hw => ?_)
    refine lv_goto (tgt := 19) B.hx B.hb dL_cell_12 (by decide) ?_
    refine lv_iconst (v := 0) B.hx B.hb dL_cell_19 (by decide) ?_
    exact w_iret B hr hlk hw (by rw [h0]; decide) (fun _ => rfl) (Nat.le_of_ble_eq_true rfl) (Nat.le_of_ble_eq_true rfl) dL_cell_20
abbrev rmw_setPace : Room := { frames := 9, cells := 2, slots := 12, locals := 155 }
set_option maxRecDepth 100000 in
set_option maxHeartbeats 4000000 in
theorem c_L_setPace (l : Launch) (hfl : l.stackTraces = false) (X : XT) (o : Nat) (p1 : Int32) (p2 : Int32) (p3 : Int32) (M : Mem) (f : Nat → Int64) (rs : XR) (hf : f_X10_setPace 5000 p1 p2 p3 M = some rs) (hk : kk kmB rs.1) (sz : Nat) : vx_Met l yL_setPace (Cond.codeWith yL_setPace cL_setPace 6 (some .int) [(0, 12, 15, 13), (0, 12, 19, 15)] :: BIG) rmw_setPace (va_Pc [.ref (X.2.2 0), .int p1, .int p2, .int p3, .ref o] (PO X o M f sz)) (WQ X o kmB pvI rs sz) (WX X o sz) 2 12 (AO X o sz) := by
  refine wx_go (by decide +kernel) (Nat.le_of_ble_eq_true rfl) ?_
  intro p e s m args below meth c hsz B hr hlk hxt hw ls hl
  subst hsz
  have hl : lv_has ls 6 [(0, .ref (X.2.2 0)), (1, .int p1), (2, .int p2), (3, .int p3), (4, .ref o)] := hl
  have h123 : rs.1 = 0 ∨ rs.1 = 1 ∨ rs.1 = 2 ∨ rs.1 = 3 := by have := hk.1; omega
  refine lv_aload B.hx B.hb dL_setPace_0 (lv_at hl 4 rfl) ?_
  refine lv_iconst (v := 0) B.hx B.hb dL_setPace_2 (by decide) ?_
  refine lv_aload_n B.hx B.hb dL_setPace_3 rfl (lv_at hl 0 rfl) ?_
  refine lv_iload_n B.hx B.hb dL_setPace_4 rfl (lv_at hl 1 rfl) ?_
  refine lv_iload_n B.hx B.hb dL_setPace_5 rfl (lv_at hl 2 rfl) ?_
  refine lv_iload_n B.hx B.hb dL_setPace_6 rfl (lv_at hl 3 rfl) ?_
  refine w_calli (As := [.int p1, .int p2, .int p3]) (rest := [.int 0, .ref o]) B hw (c_X10_setPace l hfl X 5000 p1 p2 p3 M rs hf _) cv_L_35 rfl rfl hl.1 rfl rfl ⟨(Nat.le_of_ble_eq_true rfl), (Nat.le_of_ble_eq_true rfl)⟩ (Nat.le_of_ble_eq_true rfl) ⟨(Nat.le_of_ble_eq_true rfl), (Nat.le_of_ble_eq_true rfl)⟩ dL_setPace_7 rfl (fun E ce q9 H locs h0 hE hw hce hcv hcl => ?_) (fun h0 H locs hw => ?_)
  · rcases h123 with h | h | h | h
    · exact absurd h h0
    · rw [h] at hE
      subst hE
      refine vx_catch (own := RL) (name := exn 1) B.hown (tableOf []) ⟨0, 12, 15, 13⟩ (tableOf [(0, 12, 19, 15)]) hxt (fun _ h9 => nomatch h9) (by decide) (by decide) (B.hts _ bl_1) (w_cast B 1 (by decide) (by decide)) hce hcv hcl ?_
      refine lv_astore (lv' := [(5, .ref q9), (0, .ref (X.2.2 0)), (1, .int p1), (2, .int p2), (3, .int p3), (4, .ref o)]) B.hx B.hb dL_setPace_15 hl (by decide) rfl (fun ls hl => ?_)
      refine lv_iconst (v := 1) B.hx B.hb dL_setPace_17 (by decide) ?_
      exact w_iret B hr hlk hw (by rw [h]; decide) (fun h9 => absurd h9 h0) (Nat.le_of_ble_eq_true rfl) (Nat.le_of_ble_eq_true rfl) dL_setPace_18
    · rw [h] at hE
      subst hE
      refine vx_catch (own := RL) (name := exn 2) B.hown (tableOf [(0, 12, 15, 13)]) ⟨0, 12, 19, 15⟩ (tableOf []) hxt (List.forall_mem_cons.mpr ⟨w_ps1 B 2 (by decide) (by decide) (by decide), (fun _ h9 => nomatch h9)⟩) (by decide) (by decide) (B.hts _ bl_2) (w_cast B 2 (by decide) (by decide)) hce hcv hcl ?_
      refine lv_astore (lv' := [(5, .ref q9), (0, .ref (X.2.2 0)), (1, .int p1), (2, .int p2), (3, .int p3), (4, .ref o)]) B.hx B.hb dL_setPace_19 hl (by decide) rfl (fun ls hl => ?_)
      refine lv_iconst (v := 2) B.hx B.hb dL_setPace_21 (by decide) ?_
      exact w_iret B hr hlk hw (by rw [h]; decide) (fun h9 => absurd h9 h0) (Nat.le_of_ble_eq_true rfl) (Nat.le_of_ble_eq_true rfl) dL_setPace_22
    · exact absurd hk.2.1 (by rw [h]; decide)
  · refine lv_i2l (v := rs.2.1.toInt64) B.hx B.hb dL_setPace_10 rfl ?_
    refine w_last B hw dL_setPace_11 (fun H locs hw => ?_)
    refine lv_goto (tgt := 23) B.hx B.hb dL_setPace_12 (by decide) ?_
    refine lv_iconst (v := 0) B.hx B.hb dL_setPace_23 (by decide) ?_
    exact w_iret B hr hlk hw (by rw [h0]; decide) (fun _ => rfl) (Nat.le_of_ble_eq_true rfl) (Nat.le_of_ble_eq_true rfl) dL_setPace_24
abbrev rmw_setBounds : Room := { frames := 9, cells := 2, slots := 12, locals := 155 }
set_option maxRecDepth 100000 in
set_option maxHeartbeats 4000000 in
theorem c_L_setBounds (l : Launch) (hfl : l.stackTraces = false) (X : XT) (o : Nat) (p1 : Int32) (p2 : Int32) (p3 : Int32) (M : Mem) (f : Nat → Int64) (rs : XR) (hf : f_X10_setBounds 5000 p1 p2 p3 M = some rs) (hk : kk kmB rs.1) (sz : Nat) : vx_Met l yL_setBounds (Cond.codeWith yL_setBounds cL_setBounds 6 (some .int) [(0, 12, 15, 13), (0, 12, 19, 15)] :: BIG) rmw_setBounds (va_Pc [.ref (X.2.2 0), .int p1, .int p2, .int p3, .ref o] (PO X o M f sz)) (WQ X o kmB pvI rs sz) (WX X o sz) 2 12 (AO X o sz) := by
  refine wx_go (by decide +kernel) (Nat.le_of_ble_eq_true rfl) ?_
  intro p e s m args below meth c hsz B hr hlk hxt hw ls hl
  subst hsz
  have hl : lv_has ls 6 [(0, .ref (X.2.2 0)), (1, .int p1), (2, .int p2), (3, .int p3), (4, .ref o)] := hl
  have h123 : rs.1 = 0 ∨ rs.1 = 1 ∨ rs.1 = 2 ∨ rs.1 = 3 := by have := hk.1; omega
  refine lv_aload B.hx B.hb dL_setBounds_0 (lv_at hl 4 rfl) ?_
  refine lv_iconst (v := 0) B.hx B.hb dL_setBounds_2 (by decide) ?_
  refine lv_aload_n B.hx B.hb dL_setBounds_3 rfl (lv_at hl 0 rfl) ?_
  refine lv_iload_n B.hx B.hb dL_setBounds_4 rfl (lv_at hl 1 rfl) ?_
  refine lv_iload_n B.hx B.hb dL_setBounds_5 rfl (lv_at hl 2 rfl) ?_
  refine lv_iload_n B.hx B.hb dL_setBounds_6 rfl (lv_at hl 3 rfl) ?_
  refine w_calli (As := [.int p1, .int p2, .int p3]) (rest := [.int 0, .ref o]) B hw (c_X10_setBounds l hfl X 5000 p1 p2 p3 M rs hf _) cv_L_38 rfl rfl hl.1 rfl rfl ⟨(Nat.le_of_ble_eq_true rfl), (Nat.le_of_ble_eq_true rfl)⟩ (Nat.le_of_ble_eq_true rfl) ⟨(Nat.le_of_ble_eq_true rfl), (Nat.le_of_ble_eq_true rfl)⟩ dL_setBounds_7 rfl (fun E ce q9 H locs h0 hE hw hce hcv hcl => ?_) (fun h0 H locs hw => ?_)
  · rcases h123 with h | h | h | h
    · exact absurd h h0
    · rw [h] at hE
      subst hE
      refine vx_catch (own := RL) (name := exn 1) B.hown (tableOf []) ⟨0, 12, 15, 13⟩ (tableOf [(0, 12, 19, 15)]) hxt (fun _ h9 => nomatch h9) (by decide) (by decide) (B.hts _ bl_1) (w_cast B 1 (by decide) (by decide)) hce hcv hcl ?_
      refine lv_astore (lv' := [(5, .ref q9), (0, .ref (X.2.2 0)), (1, .int p1), (2, .int p2), (3, .int p3), (4, .ref o)]) B.hx B.hb dL_setBounds_15 hl (by decide) rfl (fun ls hl => ?_)
      refine lv_iconst (v := 1) B.hx B.hb dL_setBounds_17 (by decide) ?_
      exact w_iret B hr hlk hw (by rw [h]; decide) (fun h9 => absurd h9 h0) (Nat.le_of_ble_eq_true rfl) (Nat.le_of_ble_eq_true rfl) dL_setBounds_18
    · rw [h] at hE
      subst hE
      refine vx_catch (own := RL) (name := exn 2) B.hown (tableOf [(0, 12, 15, 13)]) ⟨0, 12, 19, 15⟩ (tableOf []) hxt (List.forall_mem_cons.mpr ⟨w_ps1 B 2 (by decide) (by decide) (by decide), (fun _ h9 => nomatch h9)⟩) (by decide) (by decide) (B.hts _ bl_2) (w_cast B 2 (by decide) (by decide)) hce hcv hcl ?_
      refine lv_astore (lv' := [(5, .ref q9), (0, .ref (X.2.2 0)), (1, .int p1), (2, .int p2), (3, .int p3), (4, .ref o)]) B.hx B.hb dL_setBounds_19 hl (by decide) rfl (fun ls hl => ?_)
      refine lv_iconst (v := 2) B.hx B.hb dL_setBounds_21 (by decide) ?_
      exact w_iret B hr hlk hw (by rw [h]; decide) (fun h9 => absurd h9 h0) (Nat.le_of_ble_eq_true rfl) (Nat.le_of_ble_eq_true rfl) dL_setBounds_22
    · exact absurd hk.2.1 (by rw [h]; decide)
  · refine lv_i2l (v := rs.2.1.toInt64) B.hx B.hb dL_setBounds_10 rfl ?_
    refine w_last B hw dL_setBounds_11 (fun H locs hw => ?_)
    refine lv_goto (tgt := 23) B.hx B.hb dL_setBounds_12 (by decide) ?_
    refine lv_iconst (v := 0) B.hx B.hb dL_setBounds_23 (by decide) ?_
    exact w_iret B hr hlk hw (by rw [h0]; decide) (fun _ => rfl) (Nat.le_of_ble_eq_true rfl) (Nat.le_of_ble_eq_true rfl) dL_setBounds_24
abbrev rmw_setLease : Room := { frames := 9, cells := 2, slots := 12, locals := 154 }
set_option maxRecDepth 100000 in
set_option maxHeartbeats 4000000 in
theorem c_L_setLease (l : Launch) (hfl : l.stackTraces = false) (X : XT) (o : Nat) (p1 : Int32) (p2 : Int32) (M : Mem) (f : Nat → Int64) (rs : XR) (hf : f_X10_setLease 5000 p1 p2 M = some rs) (hk : kk kmB rs.1) (sz : Nat) : vx_Met l yL_setLease (Cond.codeWith yL_setLease cL_setLease 5 (some .int) [(0, 10, 13, 13), (0, 10, 17, 15)] :: BIG) rmw_setLease (va_Pc [.ref (X.2.2 0), .int p1, .int p2, .ref o] (PO X o M f sz)) (WQ X o kmB pvI rs sz) (WX X o sz) 2 12 (AO X o sz) := by
  refine wx_go (by decide +kernel) (Nat.le_of_ble_eq_true rfl) ?_
  intro p e s m args below meth c hsz B hr hlk hxt hw ls hl
  subst hsz
  have hl : lv_has ls 5 [(0, .ref (X.2.2 0)), (1, .int p1), (2, .int p2), (3, .ref o)] := hl
  have h123 : rs.1 = 0 ∨ rs.1 = 1 ∨ rs.1 = 2 ∨ rs.1 = 3 := by have := hk.1; omega
  refine lv_aload_n B.hx B.hb dL_setLease_0 rfl (lv_at hl 3 rfl) ?_
  refine lv_iconst (v := 0) B.hx B.hb dL_setLease_1 (by decide) ?_
  refine lv_aload_n B.hx B.hb dL_setLease_2 rfl (lv_at hl 0 rfl) ?_
  refine lv_iload_n B.hx B.hb dL_setLease_3 rfl (lv_at hl 1 rfl) ?_
  refine lv_iload_n B.hx B.hb dL_setLease_4 rfl (lv_at hl 2 rfl) ?_
  refine w_calli (As := [.int p1, .int p2]) (rest := [.int 0, .ref o]) B hw (c_X10_setLease l hfl X 5000 p1 p2 M rs hf _) cv_L_41 rfl rfl hl.1 rfl rfl ⟨(Nat.le_of_ble_eq_true rfl), (Nat.le_of_ble_eq_true rfl)⟩ (Nat.le_of_ble_eq_true rfl) ⟨(Nat.le_of_ble_eq_true rfl), (Nat.le_of_ble_eq_true rfl)⟩ dL_setLease_5 rfl (fun E ce q9 H locs h0 hE hw hce hcv hcl => ?_) (fun h0 H locs hw => ?_)
  · rcases h123 with h | h | h | h
    · exact absurd h h0
    · rw [h] at hE
      subst hE
      refine vx_catch (own := RL) (name := exn 1) B.hown (tableOf []) ⟨0, 10, 13, 13⟩ (tableOf [(0, 10, 17, 15)]) hxt (fun _ h9 => nomatch h9) (by decide) (by decide) (B.hts _ bl_1) (w_cast B 1 (by decide) (by decide)) hce hcv hcl ?_
      refine lv_astore (lv' := [(4, .ref q9), (0, .ref (X.2.2 0)), (1, .int p1), (2, .int p2), (3, .ref o)]) B.hx B.hb dL_setLease_13 hl (by decide) rfl (fun ls hl => ?_)
      refine lv_iconst (v := 1) B.hx B.hb dL_setLease_15 (by decide) ?_
      exact w_iret B hr hlk hw (by rw [h]; decide) (fun h9 => absurd h9 h0) (Nat.le_of_ble_eq_true rfl) (Nat.le_of_ble_eq_true rfl) dL_setLease_16
    · rw [h] at hE
      subst hE
      refine vx_catch (own := RL) (name := exn 2) B.hown (tableOf [(0, 10, 13, 13)]) ⟨0, 10, 17, 15⟩ (tableOf []) hxt (List.forall_mem_cons.mpr ⟨w_ps1 B 2 (by decide) (by decide) (by decide), (fun _ h9 => nomatch h9)⟩) (by decide) (by decide) (B.hts _ bl_2) (w_cast B 2 (by decide) (by decide)) hce hcv hcl ?_
      refine lv_astore (lv' := [(4, .ref q9), (0, .ref (X.2.2 0)), (1, .int p1), (2, .int p2), (3, .ref o)]) B.hx B.hb dL_setLease_17 hl (by decide) rfl (fun ls hl => ?_)
      refine lv_iconst (v := 2) B.hx B.hb dL_setLease_19 (by decide) ?_
      exact w_iret B hr hlk hw (by rw [h]; decide) (fun h9 => absurd h9 h0) (Nat.le_of_ble_eq_true rfl) (Nat.le_of_ble_eq_true rfl) dL_setLease_20
    · exact absurd hk.2.1 (by rw [h]; decide)
  · refine lv_i2l (v := rs.2.1.toInt64) B.hx B.hb dL_setLease_8 rfl ?_
    refine w_last B hw dL_setLease_9 (fun H locs hw => ?_)
    refine lv_goto (tgt := 21) B.hx B.hb dL_setLease_10 (by decide) ?_
    refine lv_iconst (v := 0) B.hx B.hb dL_setLease_21 (by decide) ?_
    exact w_iret B hr hlk hw (by rw [h0]; decide) (fun _ => rfl) (Nat.le_of_ble_eq_true rfl) (Nat.le_of_ble_eq_true rfl) dL_setLease_22
abbrev rmw_fail : Room := { frames := 9, cells := 2, slots := 12, locals := 155 }
set_option maxRecDepth 100000 in
set_option maxHeartbeats 4000000 in
theorem c_L_fail (l : Launch) (hfl : l.stackTraces = false) (X : XT) (o : Nat) (p1 : Int32) (p2 : Int32) (p3 : Int32) (M : Mem) (f : Nat → Int64) (rs : XR) (hf : f_X10_fail 5000 p1 p2 p3 M = some rs) (hk : kk kmB rs.1) (sz : Nat) : vx_Met l yL_fail (Cond.codeWith yL_fail cL_fail 6 (some .int) [(0, 12, 15, 13), (0, 12, 19, 15)] :: BIG) rmw_fail (va_Pc [.ref (X.2.2 0), .int p1, .int p2, .int p3, .ref o] (PO X o M f sz)) (WQ X o kmB pvI rs sz) (WX X o sz) 2 12 (AO X o sz) := by
  refine wx_go (by decide +kernel) (Nat.le_of_ble_eq_true rfl) ?_
  intro p e s m args below meth c hsz B hr hlk hxt hw ls hl
  subst hsz
  have hl : lv_has ls 6 [(0, .ref (X.2.2 0)), (1, .int p1), (2, .int p2), (3, .int p3), (4, .ref o)] := hl
  have h123 : rs.1 = 0 ∨ rs.1 = 1 ∨ rs.1 = 2 ∨ rs.1 = 3 := by have := hk.1; omega
  refine lv_aload B.hx B.hb dL_fail_0 (lv_at hl 4 rfl) ?_
  refine lv_iconst (v := 0) B.hx B.hb dL_fail_2 (by decide) ?_
  refine lv_aload_n B.hx B.hb dL_fail_3 rfl (lv_at hl 0 rfl) ?_
  refine lv_iload_n B.hx B.hb dL_fail_4 rfl (lv_at hl 1 rfl) ?_
  refine lv_iload_n B.hx B.hb dL_fail_5 rfl (lv_at hl 2 rfl) ?_
  refine lv_iload_n B.hx B.hb dL_fail_6 rfl (lv_at hl 3 rfl) ?_
  refine w_calli (As := [.int p1, .int p2, .int p3]) (rest := [.int 0, .ref o]) B hw (c_X10_fail l hfl X 5000 p1 p2 p3 M rs hf _) cv_L_44 rfl rfl hl.1 rfl rfl ⟨(Nat.le_of_ble_eq_true rfl), (Nat.le_of_ble_eq_true rfl)⟩ (Nat.le_of_ble_eq_true rfl) ⟨(Nat.le_of_ble_eq_true rfl), (Nat.le_of_ble_eq_true rfl)⟩ dL_fail_7 rfl (fun E ce q9 H locs h0 hE hw hce hcv hcl => ?_) (fun h0 H locs hw => ?_)
  · rcases h123 with h | h | h | h
    · exact absurd h h0
    · rw [h] at hE
      subst hE
      refine vx_catch (own := RL) (name := exn 1) B.hown (tableOf []) ⟨0, 12, 15, 13⟩ (tableOf [(0, 12, 19, 15)]) hxt (fun _ h9 => nomatch h9) (by decide) (by decide) (B.hts _ bl_1) (w_cast B 1 (by decide) (by decide)) hce hcv hcl ?_
      refine lv_astore (lv' := [(5, .ref q9), (0, .ref (X.2.2 0)), (1, .int p1), (2, .int p2), (3, .int p3), (4, .ref o)]) B.hx B.hb dL_fail_15 hl (by decide) rfl (fun ls hl => ?_)
      refine lv_iconst (v := 1) B.hx B.hb dL_fail_17 (by decide) ?_
      exact w_iret B hr hlk hw (by rw [h]; decide) (fun h9 => absurd h9 h0) (Nat.le_of_ble_eq_true rfl) (Nat.le_of_ble_eq_true rfl) dL_fail_18
    · rw [h] at hE
      subst hE
      refine vx_catch (own := RL) (name := exn 2) B.hown (tableOf [(0, 12, 15, 13)]) ⟨0, 12, 19, 15⟩ (tableOf []) hxt (List.forall_mem_cons.mpr ⟨w_ps1 B 2 (by decide) (by decide) (by decide), (fun _ h9 => nomatch h9)⟩) (by decide) (by decide) (B.hts _ bl_2) (w_cast B 2 (by decide) (by decide)) hce hcv hcl ?_
      refine lv_astore (lv' := [(5, .ref q9), (0, .ref (X.2.2 0)), (1, .int p1), (2, .int p2), (3, .int p3), (4, .ref o)]) B.hx B.hb dL_fail_19 hl (by decide) rfl (fun ls hl => ?_)
      refine lv_iconst (v := 2) B.hx B.hb dL_fail_21 (by decide) ?_
      exact w_iret B hr hlk hw (by rw [h]; decide) (fun h9 => absurd h9 h0) (Nat.le_of_ble_eq_true rfl) (Nat.le_of_ble_eq_true rfl) dL_fail_22
    · exact absurd hk.2.1 (by rw [h]; decide)
  · refine lv_i2l (v := rs.2.1.toInt64) B.hx B.hb dL_fail_10 rfl ?_
    refine w_last B hw dL_fail_11 (fun H locs hw => ?_)
    refine lv_goto (tgt := 23) B.hx B.hb dL_fail_12 (by decide) ?_
    refine lv_iconst (v := 0) B.hx B.hb dL_fail_23 (by decide) ?_
    exact w_iret B hr hlk hw (by rw [h0]; decide) (fun _ => rfl) (Nat.le_of_ble_eq_true rfl) (Nat.le_of_ble_eq_true rfl) dL_fail_24
abbrev rmw_forbid : Room := { frames := 9, cells := 2, slots := 12, locals := 156 }
set_option maxRecDepth 100000 in
set_option maxHeartbeats 4000000 in
theorem c_L_forbid (l : Launch) (hfl : l.stackTraces = false) (X : XT) (o : Nat) (p1 : Int32) (p2 : Int32) (p3 : Int32) (M : Mem) (f : Nat → Int64) (rs : XR) (hf : f_X10_forbid 5000 p1 p2 p3 M = some rs) (hk : kk kmC rs.1) (sz : Nat) : vx_Met l yL_forbid (Cond.codeWith yL_forbid cL_forbid 6 (some .int) [(0, 19, 22, 13)] :: BIG) rmw_forbid (va_Pc [.ref (X.2.2 0), .int p1, .int p2, .int p3, .ref o] (PO X o M f sz)) (WQ X o kmC pvZ rs sz) (WX X o sz) 2 12 (AO X o sz) := by
  refine wx_go (by decide +kernel) (Nat.le_of_ble_eq_true rfl) ?_
  intro p e s m args below meth c hsz B hr hlk hxt hw ls hl
  subst hsz
  have hl : lv_has ls 6 [(0, .ref (X.2.2 0)), (1, .int p1), (2, .int p2), (3, .int p3), (4, .ref o)] := hl
  have h123 : rs.1 = 0 ∨ rs.1 = 1 ∨ rs.1 = 2 ∨ rs.1 = 3 := by have := hk.1; omega
  refine lv_aload B.hx B.hb dL_forbid_0 (lv_at hl 4 rfl) ?_
  refine lv_iconst (v := 0) B.hx B.hb dL_forbid_2 (by decide) ?_
  refine lv_aload_n B.hx B.hb dL_forbid_3 rfl (lv_at hl 0 rfl) ?_
  refine lv_iload_n B.hx B.hb dL_forbid_4 rfl (lv_at hl 1 rfl) ?_
  refine lv_iload_n B.hx B.hb dL_forbid_5 rfl (lv_at hl 2 rfl) ?_
  refine lv_iload_n B.hx B.hb dL_forbid_6 rfl (lv_at hl 3 rfl) ?_
  refine w_calli (As := [.int p1, .int p2, .int p3]) (rest := [.int 0, .ref o]) B hw (c_X10_forbid l hfl X 5000 p1 p2 p3 M rs hf _) cv_L_48 rfl rfl hl.1 rfl rfl ⟨(Nat.le_of_ble_eq_true rfl), (Nat.le_of_ble_eq_true rfl)⟩ (Nat.le_of_ble_eq_true rfl) ⟨(Nat.le_of_ble_eq_true rfl), (Nat.le_of_ble_eq_true rfl)⟩ dL_forbid_7 rfl (fun E ce q9 H locs h0 hE hw hce hcv hcl => ?_) (fun h0 H locs hw => ?_)
  · rcases h123 with h | h | h | h
    · exact absurd h h0
    · rw [h] at hE
      subst hE
      refine vx_catch (own := RL) (name := exn 1) B.hown (tableOf []) ⟨0, 19, 22, 13⟩ (tableOf []) hxt (fun _ h9 => nomatch h9) (by decide) (by decide) (B.hts _ bl_1) (w_cast B 1 (by decide) (by decide)) hce hcv hcl ?_
      refine lv_astore (lv' := [(5, .ref q9), (0, .ref (X.2.2 0)), (1, .int p1), (2, .int p2), (3, .int p3), (4, .ref o)]) B.hx B.hb dL_forbid_22 hl (by decide) rfl (fun ls hl => ?_)
      refine lv_iconst (v := 1) B.hx B.hb dL_forbid_24 (by decide) ?_
      exact w_iret B hr hlk hw (by rw [h]; decide) (fun h9 => absurd h9 h0) (Nat.le_of_ble_eq_true rfl) (Nat.le_of_ble_eq_true rfl) dL_forbid_25
    · exact absurd hk.2.1 (by rw [h]; decide)
    · exact absurd hk.2.1 (by rw [h]; decide)
  · refine lv_if_eq (tgt := 17) B.hx B.hb dL_forbid_10 (by decide) (fun c9 => ?_) (fun c9 => ?_)
    · refine lv_lconst (v := 0) B.hx B.hb dL_forbid_17 (by decide) ?_
      refine w_last B hw dL_forbid_18 (fun H locs hw => ?_)
      refine lv_goto (tgt := 26) B.hx B.hb dL_forbid_19 (by decide) ?_
      refine lv_iconst (v := 0) B.hx B.hb dL_forbid_26 (by decide) ?_
      exact w_iret B hr hlk hw (by rw [h0]; decide) (fun _ => by show _ = ite _ _ _; rw [if_pos c9]; rfl) (Nat.le_of_ble_eq_true rfl) (Nat.le_of_ble_eq_true rfl) dL_forbid_27
    · refine lv_lconst (v := 1) B.hx B.hb dL_forbid_13 (by decide) ?_
      refine lv_goto (tgt := 18) B.hx B.hb dL_forbid_14 (by decide) ?_
      refine w_last B hw dL_forbid_18 (fun H locs hw => ?_)
      refine lv_goto (tgt := 26) B.hx B.hb dL_forbid_19 (by decide) ?_
      refine lv_iconst (v := 0) B.hx B.hb dL_forbid_26 (by decide) ?_
      exact w_iret B hr hlk hw (by rw [h0]; decide) (fun _ => by show _ = ite _ _ _; rw [if_neg c9]; rfl) (Nat.le_of_ble_eq_true rfl) (Nat.le_of_ble_eq_true rfl) dL_forbid_27
abbrev rmw_pass : Room := { frames := 8, cells := 1, slots := 6, locals := 131 }
set_option maxRecDepth 100000 in
set_option maxHeartbeats 4000000 in
theorem c_L_pass (l : Launch) (hfl : l.stackTraces = false) (X : XT) (o : Nat) (p1 : Int32) (M : Mem) (f : Nat → Int64) (rs : XR) (hf : f_X10_pass 5000 p1 M = some rs) (hk : kk kmP rs.1) (sz : Nat) : vx_Met l yL_pass (Cond.codeWith yL_pass cL_pass 4 (some .int) [(0, 9, 12, 15)] :: BIG) rmw_pass (va_Pc [.ref (X.2.2 0), .int p1, .ref o] (PO X o M f sz)) (WQ X o kmP pvI rs sz) (WX X o sz) 1 6 (AO X o sz) := by
  refine wx_go (by decide +kernel) (Nat.le_of_ble_eq_true rfl) ?_
  intro p e s m args below meth c hsz B hr hlk hxt hw ls hl
  subst hsz
  have hl : lv_has ls 4 [(0, .ref (X.2.2 0)), (1, .int p1), (2, .ref o)] := hl
  have h123 : rs.1 = 0 ∨ rs.1 = 1 ∨ rs.1 = 2 ∨ rs.1 = 3 := by have := hk.1; omega
  refine lv_aload_n B.hx B.hb dL_pass_0 rfl (lv_at hl 2 rfl) ?_
  refine lv_iconst (v := 0) B.hx B.hb dL_pass_1 (by decide) ?_
  refine lv_aload_n B.hx B.hb dL_pass_2 rfl (lv_at hl 0 rfl) ?_
  refine lv_iload_n B.hx B.hb dL_pass_3 rfl (lv_at hl 1 rfl) ?_
  refine w_calli (As := [.int p1]) (rest := [.int 0, .ref o]) B hw (c_X10_pass l hfl X 5000 p1 M rs hf _) cv_L_52 rfl rfl hl.1 rfl rfl ⟨(Nat.le_of_ble_eq_true rfl), (Nat.le_of_ble_eq_true rfl)⟩ (Nat.le_of_ble_eq_true rfl) ⟨(Nat.le_of_ble_eq_true rfl), (Nat.le_of_ble_eq_true rfl)⟩ dL_pass_4 rfl (fun E ce q9 H locs h0 hE hw hce hcv hcl => ?_) (fun h0 H locs hw => ?_)
  · rcases h123 with h | h | h | h
    · exact absurd h h0
    · exact absurd hk.2.1 (by rw [h]; decide)
    · rw [h] at hE
      subst hE
      refine vx_catch (own := RL) (name := exn 2) B.hown (tableOf []) ⟨0, 9, 12, 15⟩ (tableOf []) hxt (fun _ h9 => nomatch h9) (by decide) (by decide) (B.hts _ bl_2) (w_cast B 2 (by decide) (by decide)) hce hcv hcl ?_
      refine lv_astore_n (lv' := [(3, .ref q9), (0, .ref (X.2.2 0)), (1, .int p1), (2, .ref o)]) B.hx B.hb dL_pass_12 rfl hl (by decide) rfl (fun ls hl => ?_)
      refine lv_iconst (v := 1) B.hx B.hb dL_pass_13 (by decide) ?_
      exact w_iret B hr hlk hw (by rw [h]; decide) (fun h9 => absurd h9 h0) (Nat.le_of_ble_eq_true rfl) (Nat.le_of_ble_eq_true rfl) dL_pass_14
    · exact absurd hk.2.1 (by rw [h]; decide)
  · refine lv_i2l (v := rs.2.1.toInt64) B.hx B.hb dL_pass_7 rfl ?_
    refine w_last B hw dL_pass_8 (fun H locs hw => ?_)
    refine lv_goto (tgt := 15) B.hx B.hb dL_pass_9 (by decide) ?_
    refine lv_iconst (v := 0) B.hx B.hb dL_pass_15 (by decide) ?_
    exact w_iret B hr hlk hw (by rw [h0]; decide) (fun _ => rfl) (Nat.le_of_ble_eq_true rfl) (Nat.le_of_ble_eq_true rfl) dL_pass_16
abbrev rmw_seat : Room := { frames := 9, cells := 2, slots := 12, locals := 152 }
set_option maxRecDepth 100000 in
set_option maxHeartbeats 4000000 in
theorem c_L_seat (l : Launch) (hfl : l.stackTraces = false) (X : XT) (o : Nat) (p1 : Int32) (M : Mem) (f : Nat → Int64) (rs : XR) (hf : f_X10_seat 5000 p1 M = some rs) (hk : kk kmS rs.1) (sz : Nat) : vx_Met l yL_seat (Cond.codeWith yL_seat cL_seat 4 (some .int) [(0, 9, 12, 13), (0, 9, 15, 17)] :: BIG) rmw_seat (va_Pc [.ref (X.2.2 0), .int p1, .ref o] (PO X o M f sz)) (WQ X o kmS pvI rs sz) (WX X o sz) 2 12 (AO X o sz) := by
  refine wx_go (by decide +kernel) (Nat.le_of_ble_eq_true rfl) ?_
  intro p e s m args below meth c hsz B hr hlk hxt hw ls hl
  subst hsz
  have hl : lv_has ls 4 [(0, .ref (X.2.2 0)), (1, .int p1), (2, .ref o)] := hl
  have h123 : rs.1 = 0 ∨ rs.1 = 1 ∨ rs.1 = 2 ∨ rs.1 = 3 := by have := hk.1; omega
  refine lv_aload_n B.hx B.hb dL_seat_0 rfl (lv_at hl 2 rfl) ?_
  refine lv_iconst (v := 0) B.hx B.hb dL_seat_1 (by decide) ?_
  refine lv_aload_n B.hx B.hb dL_seat_2 rfl (lv_at hl 0 rfl) ?_
  refine lv_iload_n B.hx B.hb dL_seat_3 rfl (lv_at hl 1 rfl) ?_
  refine w_calli (As := [.int p1]) (rest := [.int 0, .ref o]) B hw (c_X10_seat l hfl X 5000 p1 M rs hf _) cv_L_55 rfl rfl hl.1 rfl rfl ⟨(Nat.le_of_ble_eq_true rfl), (Nat.le_of_ble_eq_true rfl)⟩ (Nat.le_of_ble_eq_true rfl) ⟨(Nat.le_of_ble_eq_true rfl), (Nat.le_of_ble_eq_true rfl)⟩ dL_seat_4 rfl (fun E ce q9 H locs h0 hE hw hce hcv hcl => ?_) (fun h0 H locs hw => ?_)
  · rcases h123 with h | h | h | h
    · exact absurd h h0
    · rw [h] at hE
      subst hE
      refine vx_catch (own := RL) (name := exn 1) B.hown (tableOf []) ⟨0, 9, 12, 13⟩ (tableOf [(0, 9, 15, 17)]) hxt (fun _ h9 => nomatch h9) (by decide) (by decide) (B.hts _ bl_1) (w_cast B 1 (by decide) (by decide)) hce hcv hcl ?_
      refine lv_astore_n (lv' := [(3, .ref q9), (0, .ref (X.2.2 0)), (1, .int p1), (2, .ref o)]) B.hx B.hb dL_seat_12 rfl hl (by decide) rfl (fun ls hl => ?_)
      refine lv_iconst (v := 1) B.hx B.hb dL_seat_13 (by decide) ?_
      exact w_iret B hr hlk hw (by rw [h]; decide) (fun h9 => absurd h9 h0) (Nat.le_of_ble_eq_true rfl) (Nat.le_of_ble_eq_true rfl) dL_seat_14
    · exact absurd hk.2.1 (by rw [h]; decide)
    · rw [h] at hE
      subst hE
      refine vx_catch (own := RL) (name := exn 3) B.hown (tableOf [(0, 9, 12, 13)]) ⟨0, 9, 15, 17⟩ (tableOf []) hxt (List.forall_mem_cons.mpr ⟨w_ps1 B 3 (by decide) (by decide) (by decide), (fun _ h9 => nomatch h9)⟩) (by decide) (by decide) (B.hts _ bl_3) (w_cast B 3 (by decide) (by decide)) hce hcv hcl ?_
      refine lv_astore_n (lv' := [(3, .ref q9), (0, .ref (X.2.2 0)), (1, .int p1), (2, .ref o)]) B.hx B.hb dL_seat_15 rfl hl (by decide) rfl (fun ls hl => ?_)
      refine lv_iconst (v := 2) B.hx B.hb dL_seat_16 (by decide) ?_
      exact w_iret B hr hlk hw (by rw [h]; decide) (fun h9 => absurd h9 h0) (Nat.le_of_ble_eq_true rfl) (Nat.le_of_ble_eq_true rfl) dL_seat_17
  · refine lv_i2l (v := rs.2.1.toInt64) B.hx B.hb dL_seat_7 rfl ?_
    refine w_last B hw dL_seat_8 (fun H locs hw => ?_)
    refine lv_goto (tgt := 18) B.hx B.hb dL_seat_9 (by decide) ?_
    refine lv_iconst (v := 0) B.hx B.hb dL_seat_18 (by decide) ?_
    exact w_iret B hr hlk hw (by rw [h0]; decide) (fun _ => rfl) (Nat.le_of_ble_eq_true rfl) (Nat.le_of_ble_eq_true rfl) dL_seat_19
abbrev rmw_link : Room := { frames := 8, cells := 3, slots := 18, locals := 134 }
set_option maxRecDepth 100000 in
set_option maxHeartbeats 4000000 in
theorem c_L_link (l : Launch) (hfl : l.stackTraces = false) (X : XT) (o : Nat) (p1 : Int32) (p2 : Int32) (p3 : Int32) (p4 : Int32) (M : Mem) (f : Nat → Int64) (rs : XR) (hf : f_X10_link 5000 p1 p2 p3 p4 M = some rs) (hk : kk kmI rs.1) (sz : Nat) : vx_Met l yL_link (Cond.codeWith yL_link cL_link 7 (some .int) [(0, 14, 17, 13), (0, 14, 21, 15), (0, 14, 25, 17)] :: BIG) rmw_link (va_Pc [.ref (X.2.2 0), .int p1, .int p2, .int p3, .int p4, .ref o] (PO X o M f sz)) (WQ X o kmI pvI rs sz) (WX X o sz) 3 18 (AO X o sz) := by
  refine wx_go (by decide +kernel) (Nat.le_of_ble_eq_true rfl) ?_
  intro p e s m args below meth c hsz B hr hlk hxt hw ls hl
  subst hsz
  have hl : lv_has ls 7 [(0, .ref (X.2.2 0)), (1, .int p1), (2, .int p2), (3, .int p3), (4, .int p4), (5, .ref o)] := hl
  have h123 : rs.1 = 0 ∨ rs.1 = 1 ∨ rs.1 = 2 ∨ rs.1 = 3 := by have := hk.1; omega
  refine lv_aload B.hx B.hb dL_link_0 (lv_at hl 5 rfl) ?_
  refine lv_iconst (v := 0) B.hx B.hb dL_link_2 (by decide) ?_
  refine lv_aload_n B.hx B.hb dL_link_3 rfl (lv_at hl 0 rfl) ?_
  refine lv_iload_n B.hx B.hb dL_link_4 rfl (lv_at hl 1 rfl) ?_
  refine lv_iload_n B.hx B.hb dL_link_5 rfl (lv_at hl 2 rfl) ?_
  refine lv_iload_n B.hx B.hb dL_link_6 rfl (lv_at hl 3 rfl) ?_
  refine lv_iload B.hx B.hb dL_link_7 (lv_at hl 4 rfl) ?_
  refine w_calli (As := [.int p1, .int p2, .int p3, .int p4]) (rest := [.int 0, .ref o]) B hw (c_X10_link l hfl X 5000 p1 p2 p3 p4 M rs hf _) cv_L_58 rfl rfl hl.1 rfl rfl ⟨(Nat.le_of_ble_eq_true rfl), (Nat.le_of_ble_eq_true rfl)⟩ (Nat.le_of_ble_eq_true rfl) ⟨(Nat.le_of_ble_eq_true rfl), (Nat.le_of_ble_eq_true rfl)⟩ dL_link_9 rfl (fun E ce q9 H locs h0 hE hw hce hcv hcl => ?_) (fun h0 H locs hw => ?_)
  · rcases h123 with h | h | h | h
    · exact absurd h h0
    · rw [h] at hE
      subst hE
      refine vx_catch (own := RL) (name := exn 1) B.hown (tableOf []) ⟨0, 14, 17, 13⟩ (tableOf [(0, 14, 21, 15), (0, 14, 25, 17)]) hxt (fun _ h9 => nomatch h9) (by decide) (by decide) (B.hts _ bl_1) (w_cast B 1 (by decide) (by decide)) hce hcv hcl ?_
      refine lv_astore (lv' := [(6, .ref q9), (0, .ref (X.2.2 0)), (1, .int p1), (2, .int p2), (3, .int p3), (4, .int p4), (5, .ref o)]) B.hx B.hb dL_link_17 hl (by decide) rfl (fun ls hl => ?_)
      refine lv_iconst (v := 1) B.hx B.hb dL_link_19 (by decide) ?_
      exact w_iret B hr hlk hw (by rw [h]; decide) (fun h9 => absurd h9 h0) (Nat.le_of_ble_eq_true rfl) (Nat.le_of_ble_eq_true rfl) dL_link_20
    · rw [h] at hE
      subst hE
      refine vx_catch (own := RL) (name := exn 2) B.hown (tableOf [(0, 14, 17, 13)]) ⟨0, 14, 21, 15⟩ (tableOf [(0, 14, 25, 17)]) hxt (List.forall_mem_cons.mpr ⟨w_ps1 B 2 (by decide) (by decide) (by decide), (fun _ h9 => nomatch h9)⟩) (by decide) (by decide) (B.hts _ bl_2) (w_cast B 2 (by decide) (by decide)) hce hcv hcl ?_
      refine lv_astore (lv' := [(6, .ref q9), (0, .ref (X.2.2 0)), (1, .int p1), (2, .int p2), (3, .int p3), (4, .int p4), (5, .ref o)]) B.hx B.hb dL_link_21 hl (by decide) rfl (fun ls hl => ?_)
      refine lv_iconst (v := 2) B.hx B.hb dL_link_23 (by decide) ?_
      exact w_iret B hr hlk hw (by rw [h]; decide) (fun h9 => absurd h9 h0) (Nat.le_of_ble_eq_true rfl) (Nat.le_of_ble_eq_true rfl) dL_link_24
    · rw [h] at hE
      subst hE
      refine vx_catch (own := RL) (name := exn 3) B.hown (tableOf [(0, 14, 17, 13), (0, 14, 21, 15)]) ⟨0, 14, 25, 17⟩ (tableOf []) hxt (List.forall_mem_cons.mpr ⟨w_ps1 B 3 (by decide) (by decide) (by decide), (List.forall_mem_cons.mpr ⟨w_ps2 B 3 (by decide) (by decide) (by decide), (fun _ h9 => nomatch h9)⟩)⟩) (by decide) (by decide) (B.hts _ bl_3) (w_cast B 3 (by decide) (by decide)) hce hcv hcl ?_
      refine lv_astore (lv' := [(6, .ref q9), (0, .ref (X.2.2 0)), (1, .int p1), (2, .int p2), (3, .int p3), (4, .int p4), (5, .ref o)]) B.hx B.hb dL_link_25 hl (by decide) rfl (fun ls hl => ?_)
      refine lv_iconst (v := 3) B.hx B.hb dL_link_27 (by decide) ?_
      exact w_iret B hr hlk hw (by rw [h]; decide) (fun h9 => absurd h9 h0) (Nat.le_of_ble_eq_true rfl) (Nat.le_of_ble_eq_true rfl) dL_link_28
  · refine lv_i2l (v := rs.2.1.toInt64) B.hx B.hb dL_link_12 rfl ?_
    refine w_last B hw dL_link_13 (fun H locs hw => ?_)
    refine lv_goto (tgt := 29) B.hx B.hb dL_link_14 (by decide) ?_
    refine lv_iconst (v := 0) B.hx B.hb dL_link_29 (by decide) ?_
    exact w_iret B hr hlk hw (by rw [h0]; decide) (fun _ => rfl) (Nat.le_of_ble_eq_true rfl) (Nat.le_of_ble_eq_true rfl) dL_link_30
abbrev rmw_where : Room := { frames := 8, cells := 3, slots := 18, locals := 134 }
set_option maxRecDepth 100000 in
set_option maxHeartbeats 4000000 in
theorem c_L_where (l : Launch) (hfl : l.stackTraces = false) (X : XT) (o : Nat) (p1 : Int32) (p2 : Int32) (p3 : Int32) (p4 : Int32) (M : Mem) (f : Nat → Int64) (rs : XR) (hf : f_X10_where 5000 p1 p2 p3 p4 M = some rs) (hk : kk kmI rs.1) (sz : Nat) : vx_Met l yL_where (Cond.codeWith yL_where cL_where 7 (some .int) [(0, 14, 17, 13), (0, 14, 21, 15), (0, 14, 25, 17)] :: BIG) rmw_where (va_Pc [.ref (X.2.2 0), .int p1, .int p2, .int p3, .int p4, .ref o] (PO X o M f sz)) (WQ X o kmI pvI rs sz) (WX X o sz) 3 18 (AO X o sz) := by
  refine wx_go (by decide +kernel) (Nat.le_of_ble_eq_true rfl) ?_
  intro p e s m args below meth c hsz B hr hlk hxt hw ls hl
  subst hsz
  have hl : lv_has ls 7 [(0, .ref (X.2.2 0)), (1, .int p1), (2, .int p2), (3, .int p3), (4, .int p4), (5, .ref o)] := hl
  have h123 : rs.1 = 0 ∨ rs.1 = 1 ∨ rs.1 = 2 ∨ rs.1 = 3 := by have := hk.1; omega
  refine lv_aload B.hx B.hb dL_where_0 (lv_at hl 5 rfl) ?_
  refine lv_iconst (v := 0) B.hx B.hb dL_where_2 (by decide) ?_
  refine lv_aload_n B.hx B.hb dL_where_3 rfl (lv_at hl 0 rfl) ?_
  refine lv_iload_n B.hx B.hb dL_where_4 rfl (lv_at hl 1 rfl) ?_
  refine lv_iload_n B.hx B.hb dL_where_5 rfl (lv_at hl 2 rfl) ?_
  refine lv_iload_n B.hx B.hb dL_where_6 rfl (lv_at hl 3 rfl) ?_
  refine lv_iload B.hx B.hb dL_where_7 (lv_at hl 4 rfl) ?_
  refine w_calli (As := [.int p1, .int p2, .int p3, .int p4]) (rest := [.int 0, .ref o]) B hw (c_X10_where l hfl X 5000 p1 p2 p3 p4 M rs hf _) cv_L_61 rfl rfl hl.1 rfl rfl ⟨(Nat.le_of_ble_eq_true rfl), (Nat.le_of_ble_eq_true rfl)⟩ (Nat.le_of_ble_eq_true rfl) ⟨(Nat.le_of_ble_eq_true rfl), (Nat.le_of_ble_eq_true rfl)⟩ dL_where_9 rfl (fun E ce q9 H locs h0 hE hw hce hcv hcl => ?_) (fun h0 H locs hw => ?_)
  · rcases h123 with h | h | h | h
    · exact absurd h h0
    · rw [h] at hE
      subst hE
      refine vx_catch (own := RL) (name := exn 1) B.hown (tableOf []) ⟨0, 14, 17, 13⟩ (tableOf [(0, 14, 21, 15), (0, 14, 25, 17)]) hxt (fun _ h9 => nomatch h9) (by decide) (by decide) (B.hts _ bl_1) (w_cast B 1 (by decide) (by decide)) hce hcv hcl ?_
      refine lv_astore (lv' := [(6, .ref q9), (0, .ref (X.2.2 0)), (1, .int p1), (2, .int p2), (3, .int p3), (4, .int p4), (5, .ref o)]) B.hx B.hb dL_where_17 hl (by decide) rfl (fun ls hl => ?_)
      refine lv_iconst (v := 1) B.hx B.hb dL_where_19 (by decide) ?_
      exact w_iret B hr hlk hw (by rw [h]; decide) (fun h9 => absurd h9 h0) (Nat.le_of_ble_eq_true rfl) (Nat.le_of_ble_eq_true rfl) dL_where_20
    · rw [h] at hE
      subst hE
      refine vx_catch (own := RL) (name := exn 2) B.hown (tableOf [(0, 14, 17, 13)]) ⟨0, 14, 21, 15⟩ (tableOf [(0, 14, 25, 17)]) hxt (List.forall_mem_cons.mpr ⟨w_ps1 B 2 (by decide) (by decide) (by decide), (fun _ h9 => nomatch h9)⟩) (by decide) (by decide) (B.hts _ bl_2) (w_cast B 2 (by decide) (by decide)) hce hcv hcl ?_
      refine lv_astore (lv' := [(6, .ref q9), (0, .ref (X.2.2 0)), (1, .int p1), (2, .int p2), (3, .int p3), (4, .int p4), (5, .ref o)]) B.hx B.hb dL_where_21 hl (by decide) rfl (fun ls hl => ?_)
      refine lv_iconst (v := 2) B.hx B.hb dL_where_23 (by decide) ?_
      exact w_iret B hr hlk hw (by rw [h]; decide) (fun h9 => absurd h9 h0) (Nat.le_of_ble_eq_true rfl) (Nat.le_of_ble_eq_true rfl) dL_where_24
    · rw [h] at hE
      subst hE
      refine vx_catch (own := RL) (name := exn 3) B.hown (tableOf [(0, 14, 17, 13), (0, 14, 21, 15)]) ⟨0, 14, 25, 17⟩ (tableOf []) hxt (List.forall_mem_cons.mpr ⟨w_ps1 B 3 (by decide) (by decide) (by decide), (List.forall_mem_cons.mpr ⟨w_ps2 B 3 (by decide) (by decide) (by decide), (fun _ h9 => nomatch h9)⟩)⟩) (by decide) (by decide) (B.hts _ bl_3) (w_cast B 3 (by decide) (by decide)) hce hcv hcl ?_
      refine lv_astore (lv' := [(6, .ref q9), (0, .ref (X.2.2 0)), (1, .int p1), (2, .int p2), (3, .int p3), (4, .int p4), (5, .ref o)]) B.hx B.hb dL_where_25 hl (by decide) rfl (fun ls hl => ?_)
      refine lv_iconst (v := 3) B.hx B.hb dL_where_27 (by decide) ?_
      exact w_iret B hr hlk hw (by rw [h]; decide) (fun h9 => absurd h9 h0) (Nat.le_of_ble_eq_true rfl) (Nat.le_of_ble_eq_true rfl) dL_where_28
  · refine lv_i2l (v := rs.2.1.toInt64) B.hx B.hb dL_where_12 rfl ?_
    refine w_last B hw dL_where_13 (fun H locs hw => ?_)
    refine lv_goto (tgt := 29) B.hx B.hb dL_where_14 (by decide) ?_
    refine lv_iconst (v := 0) B.hx B.hb dL_where_29 (by decide) ?_
    exact w_iret B hr hlk hw (by rw [h0]; decide) (fun _ => rfl) (Nat.le_of_ble_eq_true rfl) (Nat.le_of_ble_eq_true rfl) dL_where_30
abbrev rmw_out : Room := { frames := 8, cells := 2, slots := 12, locals := 132 }
set_option maxRecDepth 100000 in
set_option maxHeartbeats 4000000 in
theorem c_L_out (l : Launch) (hfl : l.stackTraces = false) (X : XT) (o : Nat) (p1 : Int32) (p2 : Int32) (M : Mem) (f : Nat → Int64) (rs : XR) (hf : f_X10_out 5000 p1 p2 M = some rs) (hk : kk kmS rs.1) (sz : Nat) : vx_Met l yL_out (Cond.codeWith yL_out cL_out 5 (some .int) [(0, 10, 13, 13), (0, 10, 17, 17)] :: BIG) rmw_out (va_Pc [.ref (X.2.2 0), .int p1, .int p2, .ref o] (PO X o M f sz)) (WQ X o kmS pvI rs sz) (WX X o sz) 2 12 (AO X o sz) := by
  refine wx_go (by decide +kernel) (Nat.le_of_ble_eq_true rfl) ?_
  intro p e s m args below meth c hsz B hr hlk hxt hw ls hl
  subst hsz
  have hl : lv_has ls 5 [(0, .ref (X.2.2 0)), (1, .int p1), (2, .int p2), (3, .ref o)] := hl
  have h123 : rs.1 = 0 ∨ rs.1 = 1 ∨ rs.1 = 2 ∨ rs.1 = 3 := by have := hk.1; omega
  refine lv_aload_n B.hx B.hb dL_out_0 rfl (lv_at hl 3 rfl) ?_
  refine lv_iconst (v := 0) B.hx B.hb dL_out_1 (by decide) ?_
  refine lv_aload_n B.hx B.hb dL_out_2 rfl (lv_at hl 0 rfl) ?_
  refine lv_iload_n B.hx B.hb dL_out_3 rfl (lv_at hl 1 rfl) ?_
  refine lv_iload_n B.hx B.hb dL_out_4 rfl (lv_at hl 2 rfl) ?_
  refine w_calli (As := [.int p1, .int p2]) (rest := [.int 0, .ref o]) B hw (c_X10_out l hfl X 5000 p1 p2 M rs hf _) cv_L_64 rfl rfl hl.1 rfl rfl ⟨(Nat.le_of_ble_eq_true rfl), (Nat.le_of_ble_eq_true rfl)⟩ (Nat.le_of_ble_eq_true rfl) ⟨(Nat.le_of_ble_eq_true rfl), (Nat.le_of_ble_eq_true rfl)⟩ dL_out_5 rfl (fun E ce q9 H locs h0 hE hw hce hcv hcl => ?_) (fun h0 H locs hw => ?_)
  · rcases h123 with h | h | h | h
    · exact absurd h h0
    · rw [h] at hE
      subst hE
      refine vx_catch (own := RL) (name := exn 1) B.hown (tableOf []) ⟨0, 10, 13, 13⟩ (tableOf [(0, 10, 17, 17)]) hxt (fun _ h9 => nomatch h9) (by decide) (by decide) (B.hts _ bl_1) (w_cast B 1 (by decide) (by decide)) hce hcv hcl ?_
      refine lv_astore (lv' := [(4, .ref q9), (0, .ref (X.2.2 0)), (1, .int p1), (2, .int p2), (3, .ref o)]) B.hx B.hb dL_out_13 hl (by decide) rfl (fun ls hl => ?_)
      refine lv_iconst (v := 1) B.hx B.hb dL_out_15 (by decide) ?_
      exact w_iret B hr hlk hw (by rw [h]; decide) (fun h9 => absurd h9 h0) (Nat.le_of_ble_eq_true rfl) (Nat.le_of_ble_eq_true rfl) dL_out_16
    · exact absurd hk.2.1 (by rw [h]; decide)
    · rw [h] at hE
      subst hE
      refine vx_catch (own := RL) (name := exn 3) B.hown (tableOf [(0, 10, 13, 13)]) ⟨0, 10, 17, 17⟩ (tableOf []) hxt (List.forall_mem_cons.mpr ⟨w_ps1 B 3 (by decide) (by decide) (by decide), (fun _ h9 => nomatch h9)⟩) (by decide) (by decide) (B.hts _ bl_3) (w_cast B 3 (by decide) (by decide)) hce hcv hcl ?_
      refine lv_astore (lv' := [(4, .ref q9), (0, .ref (X.2.2 0)), (1, .int p1), (2, .int p2), (3, .ref o)]) B.hx B.hb dL_out_17 hl (by decide) rfl (fun ls hl => ?_)
      refine lv_iconst (v := 2) B.hx B.hb dL_out_19 (by decide) ?_
      exact w_iret B hr hlk hw (by rw [h]; decide) (fun h9 => absurd h9 h0) (Nat.le_of_ble_eq_true rfl) (Nat.le_of_ble_eq_true rfl) dL_out_20
  · refine lv_i2l (v := rs.2.1.toInt64) B.hx B.hb dL_out_8 rfl ?_
    refine w_last B hw dL_out_9 (fun H locs hw => ?_)
    refine lv_goto (tgt := 21) B.hx B.hb dL_out_10 (by decide) ?_
    refine lv_iconst (v := 0) B.hx B.hb dL_out_21 (by decide) ?_
    exact w_iret B hr hlk hw (by rw [h0]; decide) (fun _ => rfl) (Nat.le_of_ble_eq_true rfl) (Nat.le_of_ble_eq_true rfl) dL_out_22
abbrev rmw_shape : Room := { frames := 8, cells := 1, slots := 6, locals := 132 }
set_option maxRecDepth 100000 in
set_option maxHeartbeats 4000000 in
theorem c_L_shape (l : Launch) (hfl : l.stackTraces = false) (X : XT) (o : Nat) (p1 : Int32) (p2 : Int32) (M : Mem) (f : Nat → Int64) (rs : XR) (hf : f_X10_shape 5000 p1 p2 M = some rs) (hk : kk kmP rs.1) (sz : Nat) : vx_Met l yL_shape (Cond.codeWith yL_shape cL_shape 4 (some .int) [(0, 6, 9, 15)] :: BIG) rmw_shape (va_Pc [.ref (X.2.2 0), .int p1, .int p2] (PO X o M f sz)) (WQ X o kmP pvN rs sz) (WX X o sz) 1 6 (AO X o sz) := by
  refine wx_go (by decide +kernel) (Nat.le_of_ble_eq_true rfl) ?_
  intro p e s m args below meth c hsz B hr hlk hxt hw ls hl
  subst hsz
  have hl : lv_has ls 4 [(0, .ref (X.2.2 0)), (1, .int p1), (2, .int p2)] := hl
  have h123 : rs.1 = 0 ∨ rs.1 = 1 ∨ rs.1 = 2 ∨ rs.1 = 3 := by have := hk.1; omega
  refine lv_aload_n B.hx B.hb dL_shape_0 rfl (lv_at hl 0 rfl) ?_
  refine lv_iload_n B.hx B.hb dL_shape_1 rfl (lv_at hl 1 rfl) ?_
  refine lv_iload_n B.hx B.hb dL_shape_2 rfl (lv_at hl 2 rfl) ?_
  refine w_callv (As := [.int p1, .int p2]) (rest := []) B hw (c_X10_shape l hfl X 5000 p1 p2 M rs hf _) cv_L_67 rfl rfl hl.1 rfl rfl ⟨(Nat.le_of_ble_eq_true rfl), (Nat.le_of_ble_eq_true rfl)⟩ (Nat.le_of_ble_eq_true rfl) ⟨(Nat.le_of_ble_eq_true rfl), (Nat.le_of_ble_eq_true rfl)⟩ dL_shape_3 rfl (fun E ce q9 H locs h0 hE hw hce hcv hcl => ?_) (fun h0 H locs hw => ?_)
  · rcases h123 with h | h | h | h
    · exact absurd h h0
    · exact absurd hk.2.1 (by rw [h]; decide)
    · rw [h] at hE
      subst hE
      refine vx_catch (own := RL) (name := exn 2) B.hown (tableOf []) ⟨0, 6, 9, 15⟩ (tableOf []) hxt (fun _ h9 => nomatch h9) (by decide) (by decide) (B.hts _ bl_2) (w_cast B 2 (by decide) (by decide)) hce hcv hcl ?_
      refine lv_astore_n (lv' := [(3, .ref q9), (0, .ref (X.2.2 0)), (1, .int p1), (2, .int p2)]) B.hx B.hb dL_shape_9 rfl hl (by decide) rfl (fun ls hl => ?_)
      refine lv_iconst (v := 1) B.hx B.hb dL_shape_10 (by decide) ?_
      exact w_iret B hr hlk hw (by rw [h]; decide) (fun h9 => absurd h9 h0) (Nat.le_of_ble_eq_true rfl) (Nat.le_of_ble_eq_true rfl) dL_shape_11
    · exact absurd hk.2.1 (by rw [h]; decide)
  · refine lv_goto (tgt := 12) B.hx B.hb dL_shape_6 (by decide) ?_
    refine lv_iconst (v := 0) B.hx B.hb dL_shape_12 (by decide) ?_
    exact w_iret B hr hlk hw (by rw [h0]; decide) (fun _ => trivial) (Nat.le_of_ble_eq_true rfl) (Nat.le_of_ble_eq_true rfl) dL_shape_13
abbrev rmw_ask : Room := { frames := 8, cells := 2, slots := 12, locals := 173 }
set_option maxRecDepth 100000 in
set_option maxHeartbeats 4000000 in
theorem c_L_ask (l : Launch) (hfl : l.stackTraces = false) (X : XT) (o : Nat) (p1 : Int32) (p2 : Int32) (M : Mem) (f : Nat → Int64) (rs : XR) (hf : f_X10_ask 5000 p1 p2 M = some rs) (hk : kk kmA rs.1) (sz : Nat) : vx_Met l yL_ask (Cond.codeWith yL_ask cL_ask 5 (some .int) [(0, 10, 13, 15), (0, 10, 17, 17)] :: BIG) rmw_ask (va_Pc [.ref (X.2.2 0), .int p1, .int p2, .ref o] (PO X o M f sz)) (WQ X o kmA pvI rs sz) (WX X o sz) 2 12 (AO X o sz) := by
  refine wx_go (by decide +kernel) (Nat.le_of_ble_eq_true rfl) ?_
  intro p e s m args below meth c hsz B hr hlk hxt hw ls hl
  subst hsz
  have hl : lv_has ls 5 [(0, .ref (X.2.2 0)), (1, .int p1), (2, .int p2), (3, .ref o)] := hl
  have h123 : rs.1 = 0 ∨ rs.1 = 1 ∨ rs.1 = 2 ∨ rs.1 = 3 := by have := hk.1; omega
  refine lv_aload_n B.hx B.hb dL_ask_0 rfl (lv_at hl 3 rfl) ?_
  refine lv_iconst (v := 0) B.hx B.hb dL_ask_1 (by decide) ?_
  refine lv_aload_n B.hx B.hb dL_ask_2 rfl (lv_at hl 0 rfl) ?_
  refine lv_iload_n B.hx B.hb dL_ask_3 rfl (lv_at hl 1 rfl) ?_
  refine lv_iload_n B.hx B.hb dL_ask_4 rfl (lv_at hl 2 rfl) ?_
  refine w_calli (As := [.int p1, .int p2]) (rest := [.int 0, .ref o]) B hw (c_X10_ask l hfl X 5000 p1 p2 M rs hf _) cv_L_71 rfl rfl hl.1 rfl rfl ⟨(Nat.le_of_ble_eq_true rfl), (Nat.le_of_ble_eq_true rfl)⟩ (Nat.le_of_ble_eq_true rfl) ⟨(Nat.le_of_ble_eq_true rfl), (Nat.le_of_ble_eq_true rfl)⟩ dL_ask_5 rfl (fun E ce q9 H locs h0 hE hw hce hcv hcl => ?_) (fun h0 H locs hw => ?_)
  · rcases h123 with h | h | h | h
    · exact absurd h h0
    · exact absurd hk.2.1 (by rw [h]; decide)
    · rw [h] at hE
      subst hE
      refine vx_catch (own := RL) (name := exn 2) B.hown (tableOf []) ⟨0, 10, 13, 15⟩ (tableOf [(0, 10, 17, 17)]) hxt (fun _ h9 => nomatch h9) (by decide) (by decide) (B.hts _ bl_2) (w_cast B 2 (by decide) (by decide)) hce hcv hcl ?_
      refine lv_astore (lv' := [(4, .ref q9), (0, .ref (X.2.2 0)), (1, .int p1), (2, .int p2), (3, .ref o)]) B.hx B.hb dL_ask_13 hl (by decide) rfl (fun ls hl => ?_)
      refine lv_iconst (v := 1) B.hx B.hb dL_ask_15 (by decide) ?_
      exact w_iret B hr hlk hw (by rw [h]; decide) (fun h9 => absurd h9 h0) (Nat.le_of_ble_eq_true rfl) (Nat.le_of_ble_eq_true rfl) dL_ask_16
    · rw [h] at hE
      subst hE
      refine vx_catch (own := RL) (name := exn 3) B.hown (tableOf [(0, 10, 13, 15)]) ⟨0, 10, 17, 17⟩ (tableOf []) hxt (List.forall_mem_cons.mpr ⟨w_ps2 B 3 (by decide) (by decide) (by decide), (fun _ h9 => nomatch h9)⟩) (by decide) (by decide) (B.hts _ bl_3) (w_cast B 3 (by decide) (by decide)) hce hcv hcl ?_
      refine lv_astore (lv' := [(4, .ref q9), (0, .ref (X.2.2 0)), (1, .int p1), (2, .int p2), (3, .ref o)]) B.hx B.hb dL_ask_17 hl (by decide) rfl (fun ls hl => ?_)
      refine lv_iconst (v := 2) B.hx B.hb dL_ask_19 (by decide) ?_
      exact w_iret B hr hlk hw (by rw [h]; decide) (fun h9 => absurd h9 h0) (Nat.le_of_ble_eq_true rfl) (Nat.le_of_ble_eq_true rfl) dL_ask_20
  · refine lv_i2l (v := rs.2.1.toInt64) B.hx B.hb dL_ask_8 rfl ?_
    refine w_last B hw dL_ask_9 (fun H locs hw => ?_)
    refine lv_goto (tgt := 21) B.hx B.hb dL_ask_10 (by decide) ?_
    refine lv_iconst (v := 0) B.hx B.hb dL_ask_21 (by decide) ?_
    exact w_iret B hr hlk hw (by rw [h0]; decide) (fun _ => rfl) (Nat.le_of_ble_eq_true rfl) (Nat.le_of_ble_eq_true rfl) dL_ask_22
abbrev rmw_answer : Room := { frames := 8, cells := 1, slots := 6, locals := 132 }
set_option maxRecDepth 100000 in
set_option maxHeartbeats 4000000 in
theorem c_L_answer (l : Launch) (hfl : l.stackTraces = false) (X : XT) (o : Nat) (p1 : Int32) (p2 : Int32) (M : Mem) (f : Nat → Int64) (rs : XR) (hf : f_X10_answer 5000 p1 p2 M = some rs) (hk : kk kmC rs.1) (sz : Nat) : vx_Met l yL_answer (Cond.codeWith yL_answer cL_answer 5 (some .int) [(0, 10, 13, 13)] :: BIG) rmw_answer (va_Pc [.ref (X.2.2 0), .int p1, .int p2, .ref o] (PO X o M f sz)) (WQ X o kmC pvI rs sz) (WX X o sz) 1 6 (AO X o sz) := by
  refine wx_go (by decide +kernel) (Nat.le_of_ble_eq_true rfl) ?_
  intro p e s m args below meth c hsz B hr hlk hxt hw ls hl
  subst hsz
  have hl : lv_has ls 5 [(0, .ref (X.2.2 0)), (1, .int p1), (2, .int p2), (3, .ref o)] := hl
  have h123 : rs.1 = 0 ∨ rs.1 = 1 ∨ rs.1 = 2 ∨ rs.1 = 3 := by have := hk.1; omega
  refine lv_aload_n B.hx B.hb dL_answer_0 rfl (lv_at hl 3 rfl) ?_
  refine lv_iconst (v := 0) B.hx B.hb dL_answer_1 (by decide) ?_
  refine lv_aload_n B.hx B.hb dL_answer_2 rfl (lv_at hl 0 rfl) ?_
  refine lv_iload_n B.hx B.hb dL_answer_3 rfl (lv_at hl 1 rfl) ?_
  refine lv_iload_n B.hx B.hb dL_answer_4 rfl (lv_at hl 2 rfl) ?_
  refine w_calli (As := [.int p1, .int p2]) (rest := [.int 0, .ref o]) B hw (c_X10_answer l hfl X 5000 p1 p2 M rs hf _) cv_L_74 rfl rfl hl.1 rfl rfl ⟨(Nat.le_of_ble_eq_true rfl), (Nat.le_of_ble_eq_true rfl)⟩ (Nat.le_of_ble_eq_true rfl) ⟨(Nat.le_of_ble_eq_true rfl), (Nat.le_of_ble_eq_true rfl)⟩ dL_answer_5 rfl (fun E ce q9 H locs h0 hE hw hce hcv hcl => ?_) (fun h0 H locs hw => ?_)
  · rcases h123 with h | h | h | h
    · exact absurd h h0
    · rw [h] at hE
      subst hE
      refine vx_catch (own := RL) (name := exn 1) B.hown (tableOf []) ⟨0, 10, 13, 13⟩ (tableOf []) hxt (fun _ h9 => nomatch h9) (by decide) (by decide) (B.hts _ bl_1) (w_cast B 1 (by decide) (by decide)) hce hcv hcl ?_
      refine lv_astore (lv' := [(4, .ref q9), (0, .ref (X.2.2 0)), (1, .int p1), (2, .int p2), (3, .ref o)]) B.hx B.hb dL_answer_13 hl (by decide) rfl (fun ls hl => ?_)
      refine lv_iconst (v := 1) B.hx B.hb dL_answer_15 (by decide) ?_
      exact w_iret B hr hlk hw (by rw [h]; decide) (fun h9 => absurd h9 h0) (Nat.le_of_ble_eq_true rfl) (Nat.le_of_ble_eq_true rfl) dL_answer_16
    · exact absurd hk.2.1 (by rw [h]; decide)
    · exact absurd hk.2.1 (by rw [h]; decide)
  · refine lv_i2l (v := rs.2.1.toInt64) B.hx B.hb dL_answer_8 rfl ?_
    refine w_last B hw dL_answer_9 (fun H locs hw => ?_)
    refine lv_goto (tgt := 17) B.hx B.hb dL_answer_10 (by decide) ?_
    refine lv_iconst (v := 0) B.hx B.hb dL_answer_17 (by decide) ?_
    exact w_iret B hr hlk hw (by rw [h0]; decide) (fun _ => rfl) (Nat.le_of_ble_eq_true rfl) (Nat.le_of_ble_eq_true rfl) dL_answer_18
abbrev rmw_taken : Room := { frames := 9, cells := 1, slots := 6, locals := 152 }
set_option maxRecDepth 100000 in
set_option maxHeartbeats 4000000 in
theorem c_L_taken (l : Launch) (hfl : l.stackTraces = false) (X : XT) (o : Nat) (p1 : Int32) (M : Mem) (f : Nat → Int64) (rs : XR) (hf : f_X10_taken 5000 p1 M = some rs) (hk : kk kmC rs.1) (sz : Nat) : vx_Met l yL_taken (Cond.codeWith yL_taken cL_taken 4 (some .int) [(0, 9, 12, 13)] :: BIG) rmw_taken (va_Pc [.ref (X.2.2 0), .int p1, .ref o] (PO X o M f sz)) (WQ X o kmC pvI rs sz) (WX X o sz) 1 6 (AO X o sz) := by
  refine wx_go (by decide +kernel) (Nat.le_of_ble_eq_true rfl) ?_
  intro p e s m args below meth c hsz B hr hlk hxt hw ls hl
  subst hsz
  have hl : lv_has ls 4 [(0, .ref (X.2.2 0)), (1, .int p1), (2, .ref o)] := hl
  have h123 : rs.1 = 0 ∨ rs.1 = 1 ∨ rs.1 = 2 ∨ rs.1 = 3 := by have := hk.1; omega
  refine lv_aload_n B.hx B.hb dL_taken_0 rfl (lv_at hl 2 rfl) ?_
  refine lv_iconst (v := 0) B.hx B.hb dL_taken_1 (by decide) ?_
  refine lv_aload_n B.hx B.hb dL_taken_2 rfl (lv_at hl 0 rfl) ?_
  refine lv_iload_n B.hx B.hb dL_taken_3 rfl (lv_at hl 1 rfl) ?_
  refine w_calli (As := [.int p1]) (rest := [.int 0, .ref o]) B hw (c_X10_taken l hfl X 5000 p1 M rs hf _) cv_L_77 rfl rfl hl.1 rfl rfl ⟨(Nat.le_of_ble_eq_true rfl), (Nat.le_of_ble_eq_true rfl)⟩ (Nat.le_of_ble_eq_true rfl) ⟨(Nat.le_of_ble_eq_true rfl), (Nat.le_of_ble_eq_true rfl)⟩ dL_taken_4 rfl (fun E ce q9 H locs h0 hE hw hce hcv hcl => ?_) (fun h0 H locs hw => ?_)
  · rcases h123 with h | h | h | h
    · exact absurd h h0
    · rw [h] at hE
      subst hE
      refine vx_catch (own := RL) (name := exn 1) B.hown (tableOf []) ⟨0, 9, 12, 13⟩ (tableOf []) hxt (fun _ h9 => nomatch h9) (by decide) (by decide) (B.hts _ bl_1) (w_cast B 1 (by decide) (by decide)) hce hcv hcl ?_
      refine lv_astore_n (lv' := [(3, .ref q9), (0, .ref (X.2.2 0)), (1, .int p1), (2, .ref o)]) B.hx B.hb dL_taken_12 rfl hl (by decide) rfl (fun ls hl => ?_)
      refine lv_iconst (v := 1) B.hx B.hb dL_taken_13 (by decide) ?_
      exact w_iret B hr hlk hw (by rw [h]; decide) (fun h9 => absurd h9 h0) (Nat.le_of_ble_eq_true rfl) (Nat.le_of_ble_eq_true rfl) dL_taken_14
    · exact absurd hk.2.1 (by rw [h]; decide)
    · exact absurd hk.2.1 (by rw [h]; decide)
  · refine lv_i2l (v := rs.2.1.toInt64) B.hx B.hb dL_taken_7 rfl ?_
    refine w_last B hw dL_taken_8 (fun H locs hw => ?_)
    refine lv_goto (tgt := 15) B.hx B.hb dL_taken_9 (by decide) ?_
    refine lv_iconst (v := 0) B.hx B.hb dL_taken_15 (by decide) ?_
    exact w_iret B hr hlk hw (by rw [h0]; decide) (fun _ => rfl) (Nat.le_of_ble_eq_true rfl) (Nat.le_of_ble_eq_true rfl) dL_taken_16
abbrev rmw_size : Room := { frames := 9, cells := 1, slots := 6, locals := 152 }
set_option maxRecDepth 100000 in
set_option maxHeartbeats 4000000 in
theorem c_L_size (l : Launch) (hfl : l.stackTraces = false) (X : XT) (o : Nat) (p1 : Int32) (M : Mem) (f : Nat → Int64) (rs : XR) (hf : f_X10_size 5000 p1 M = some rs) (hk : kk kmC rs.1) (sz : Nat) : vx_Met l yL_size (Cond.codeWith yL_size cL_size 4 (some .int) [(0, 9, 12, 13)] :: BIG) rmw_size (va_Pc [.ref (X.2.2 0), .int p1, .ref o] (PO X o M f sz)) (WQ X o kmC pvI rs sz) (WX X o sz) 1 6 (AO X o sz) := by
  refine wx_go (by decide +kernel) (Nat.le_of_ble_eq_true rfl) ?_
  intro p e s m args below meth c hsz B hr hlk hxt hw ls hl
  subst hsz
  have hl : lv_has ls 4 [(0, .ref (X.2.2 0)), (1, .int p1), (2, .ref o)] := hl
  have h123 : rs.1 = 0 ∨ rs.1 = 1 ∨ rs.1 = 2 ∨ rs.1 = 3 := by have := hk.1; omega
  refine lv_aload_n B.hx B.hb dL_size_0 rfl (lv_at hl 2 rfl) ?_
  refine lv_iconst (v := 0) B.hx B.hb dL_size_1 (by decide) ?_
  refine lv_aload_n B.hx B.hb dL_size_2 rfl (lv_at hl 0 rfl) ?_
  refine lv_iload_n B.hx B.hb dL_size_3 rfl (lv_at hl 1 rfl) ?_
  refine w_calli (As := [.int p1]) (rest := [.int 0, .ref o]) B hw (c_X10_size l hfl X 5000 p1 M rs hf _) cv_L_80 rfl rfl hl.1 rfl rfl ⟨(Nat.le_of_ble_eq_true rfl), (Nat.le_of_ble_eq_true rfl)⟩ (Nat.le_of_ble_eq_true rfl) ⟨(Nat.le_of_ble_eq_true rfl), (Nat.le_of_ble_eq_true rfl)⟩ dL_size_4 rfl (fun E ce q9 H locs h0 hE hw hce hcv hcl => ?_) (fun h0 H locs hw => ?_)
  · rcases h123 with h | h | h | h
    · exact absurd h h0
    · rw [h] at hE
      subst hE
      refine vx_catch (own := RL) (name := exn 1) B.hown (tableOf []) ⟨0, 9, 12, 13⟩ (tableOf []) hxt (fun _ h9 => nomatch h9) (by decide) (by decide) (B.hts _ bl_1) (w_cast B 1 (by decide) (by decide)) hce hcv hcl ?_
      refine lv_astore_n (lv' := [(3, .ref q9), (0, .ref (X.2.2 0)), (1, .int p1), (2, .ref o)]) B.hx B.hb dL_size_12 rfl hl (by decide) rfl (fun ls hl => ?_)
      refine lv_iconst (v := 1) B.hx B.hb dL_size_13 (by decide) ?_
      exact w_iret B hr hlk hw (by rw [h]; decide) (fun h9 => absurd h9 h0) (Nat.le_of_ble_eq_true rfl) (Nat.le_of_ble_eq_true rfl) dL_size_14
    · exact absurd hk.2.1 (by rw [h]; decide)
    · exact absurd hk.2.1 (by rw [h]; decide)
  · refine lv_i2l (v := rs.2.1.toInt64) B.hx B.hb dL_size_7 rfl ?_
    refine w_last B hw dL_size_8 (fun H locs hw => ?_)
    refine lv_goto (tgt := 15) B.hx B.hb dL_size_9 (by decide) ?_
    refine lv_iconst (v := 0) B.hx B.hb dL_size_15 (by decide) ?_
    exact w_iret B hr hlk hw (by rw [h0]; decide) (fun _ => rfl) (Nat.le_of_ble_eq_true rfl) (Nat.le_of_ble_eq_true rfl) dL_size_16
abbrev rmw_answersAnew : Room := { frames := 8, cells := 1, slots := 6, locals := 155 }
set_option maxRecDepth 100000 in
set_option maxHeartbeats 4000000 in
theorem c_L_answersAnew (l : Launch) (hfl : l.stackTraces = false) (X : XT) (o : Nat) (M : Mem) (f : Nat → Int64) (rs : XR) (hf : f_X10_answersAnew 5000 M = some rs) (hk : kk kmN rs.1) (sz : Nat) : vx_Met l yL_answersAnew (Cond.codeWith yL_answersAnew cL_answersAnew 3 (some .int) [(0, 8, 11, 17)] :: BIG) rmw_answersAnew (va_Pc [.ref (X.2.2 0), .ref o] (PO X o M f sz)) (WQ X o kmN pvI rs sz) (WX X o sz) 1 6 (AO X o sz) := by
  refine wx_go (by decide +kernel) (Nat.le_of_ble_eq_true rfl) ?_
  intro p e s m args below meth c hsz B hr hlk hxt hw ls hl
  subst hsz
  have hl : lv_has ls 3 [(0, .ref (X.2.2 0)), (1, .ref o)] := hl
  have h123 : rs.1 = 0 ∨ rs.1 = 1 ∨ rs.1 = 2 ∨ rs.1 = 3 := by have := hk.1; omega
  refine lv_aload_n B.hx B.hb dL_answersAnew_0 rfl (lv_at hl 1 rfl) ?_
  refine lv_iconst (v := 0) B.hx B.hb dL_answersAnew_1 (by decide) ?_
  refine lv_aload_n B.hx B.hb dL_answersAnew_2 rfl (lv_at hl 0 rfl) ?_
  refine w_calli (As := []) (rest := [.int 0, .ref o]) B hw (c_X10_answersAnew l hfl X 5000 M rs hf _) cv_L_83 rfl rfl hl.1 rfl rfl ⟨(Nat.le_of_ble_eq_true rfl), (Nat.le_of_ble_eq_true rfl)⟩ (Nat.le_of_ble_eq_true rfl) ⟨(Nat.le_of_ble_eq_true rfl), (Nat.le_of_ble_eq_true rfl)⟩ dL_answersAnew_3 rfl (fun E ce q9 H locs h0 hE hw hce hcv hcl => ?_) (fun h0 H locs hw => ?_)
  · rcases h123 with h | h | h | h
    · exact absurd h h0
    · rcases aa_code hf with h9 | h9 <;> omega
    · exact absurd hk.2.1 (by rw [h]; decide)
    · rw [h] at hE
      subst hE
      refine vx_catch (own := RL) (name := exn 3) B.hown (tableOf []) ⟨0, 8, 11, 17⟩ (tableOf []) hxt (fun _ h9 => nomatch h9) (by decide) (by decide) (B.hts _ bl_3) (w_cast B 3 (by decide) (by decide)) hce hcv hcl ?_
      refine lv_astore_n (lv' := [(2, .ref q9), (0, .ref (X.2.2 0)), (1, .ref o)]) B.hx B.hb dL_answersAnew_11 rfl hl (by decide) rfl (fun ls hl => ?_)
      refine lv_iconst (v := 1) B.hx B.hb dL_answersAnew_12 (by decide) ?_
      exact w_iret B hr hlk hw (by rw [h]; decide) (fun h9 => absurd h9 h0) (Nat.le_of_ble_eq_true rfl) (Nat.le_of_ble_eq_true rfl) dL_answersAnew_13
  · refine lv_i2l (v := rs.2.1.toInt64) B.hx B.hb dL_answersAnew_6 rfl ?_
    refine w_last B hw dL_answersAnew_7 (fun H locs hw => ?_)
    refine lv_goto (tgt := 14) B.hx B.hb dL_answersAnew_8 (by decide) ?_
    refine lv_iconst (v := 0) B.hx B.hb dL_answersAnew_14 (by decide) ?_
    exact w_iret B hr hlk hw (by rw [h0]; decide) (fun _ => rfl) (Nat.le_of_ble_eq_true rfl) (Nat.le_of_ble_eq_true rfl) dL_answersAnew_15
abbrev rmw_answerAnew : Room := { frames := 8, cells := 2, slots := 12, locals := 157 }
set_option maxRecDepth 100000 in
set_option maxHeartbeats 4000000 in
theorem c_L_answerAnew (l : Launch) (hfl : l.stackTraces = false) (X : XT) (o : Nat) (p1 : Int32) (p2 : Int32) (M : Mem) (f : Nat → Int64) (rs : XR) (hf : f_X10_answerAnew 5000 p1 p2 M = some rs) (hk : kk kmN rs.1) (sz : Nat) : vx_Met l yL_answerAnew (Cond.codeWith yL_answerAnew cL_answerAnew 5 (some .int) [(0, 10, 13, 17), (0, 10, 17, 13)] :: BIG) rmw_answerAnew (va_Pc [.ref (X.2.2 0), .int p1, .int p2, .ref o] (PO X o M f sz)) (WQ X o kmN pvI rs sz) (WX X o sz) 2 12 (AO X o sz) := by
  refine wx_go (by decide +kernel) (Nat.le_of_ble_eq_true rfl) ?_
  intro p e s m args below meth c hsz B hr hlk hxt hw ls hl
  subst hsz
  have hl : lv_has ls 5 [(0, .ref (X.2.2 0)), (1, .int p1), (2, .int p2), (3, .ref o)] := hl
  have h123 : rs.1 = 0 ∨ rs.1 = 1 ∨ rs.1 = 2 ∨ rs.1 = 3 := by have := hk.1; omega
  refine lv_aload_n B.hx B.hb dL_answerAnew_0 rfl (lv_at hl 3 rfl) ?_
  refine lv_iconst (v := 0) B.hx B.hb dL_answerAnew_1 (by decide) ?_
  refine lv_aload_n B.hx B.hb dL_answerAnew_2 rfl (lv_at hl 0 rfl) ?_
  refine lv_iload_n B.hx B.hb dL_answerAnew_3 rfl (lv_at hl 1 rfl) ?_
  refine lv_iload_n B.hx B.hb dL_answerAnew_4 rfl (lv_at hl 2 rfl) ?_
  refine w_calli (As := [.int p1, .int p2]) (rest := [.int 0, .ref o]) B hw (c_X10_answerAnew l hfl X 5000 p1 p2 M rs hf _) cv_L_87 rfl rfl hl.1 rfl rfl ⟨(Nat.le_of_ble_eq_true rfl), (Nat.le_of_ble_eq_true rfl)⟩ (Nat.le_of_ble_eq_true rfl) ⟨(Nat.le_of_ble_eq_true rfl), (Nat.le_of_ble_eq_true rfl)⟩ dL_answerAnew_5 rfl (fun E ce q9 H locs h0 hE hw hce hcv hcl => ?_) (fun h0 H locs hw => ?_)
  · rcases h123 with h | h | h | h
    · exact absurd h h0
    · rw [h] at hE
      subst hE
      refine vx_catch (own := RL) (name := exn 1) B.hown (tableOf [(0, 10, 13, 17)]) ⟨0, 10, 17, 13⟩ (tableOf []) hxt (List.forall_mem_cons.mpr ⟨w_ps3 B 1 (by decide) (by decide) (by decide), (fun _ h9 => nomatch h9)⟩) (by decide) (by decide) (B.hts _ bl_1) (w_cast B 1 (by decide) (by decide)) hce hcv hcl ?_
      refine lv_astore (lv' := [(4, .ref q9), (0, .ref (X.2.2 0)), (1, .int p1), (2, .int p2), (3, .ref o)]) B.hx B.hb dL_answerAnew_17 hl (by decide) rfl (fun ls hl => ?_)
      refine lv_iconst (v := 2) B.hx B.hb dL_answerAnew_19 (by decide) ?_
      exact w_iret B hr hlk hw (by rw [h]; decide) (fun h9 => absurd h9 h0) (Nat.le_of_ble_eq_true rfl) (Nat.le_of_ble_eq_true rfl) dL_answerAnew_20
    · exact absurd hk.2.1 (by rw [h]; decide)
    · rw [h] at hE
      subst hE
      refine vx_catch (own := RL) (name := exn 3) B.hown (tableOf []) ⟨0, 10, 13, 17⟩ (tableOf [(0, 10, 17, 13)]) hxt (fun _ h9 => nomatch h9) (by decide) (by decide) (B.hts _ bl_3) (w_cast B 3 (by decide) (by decide)) hce hcv hcl ?_
      refine lv_astore (lv' := [(4, .ref q9), (0, .ref (X.2.2 0)), (1, .int p1), (2, .int p2), (3, .ref o)]) B.hx B.hb dL_answerAnew_13 hl (by decide) rfl (fun ls hl => ?_)
      refine lv_iconst (v := 1) B.hx B.hb dL_answerAnew_15 (by decide) ?_
      exact w_iret B hr hlk hw (by rw [h]; decide) (fun h9 => absurd h9 h0) (Nat.le_of_ble_eq_true rfl) (Nat.le_of_ble_eq_true rfl) dL_answerAnew_16
  · refine lv_i2l (v := rs.2.1.toInt64) B.hx B.hb dL_answerAnew_8 rfl ?_
    refine w_last B hw dL_answerAnew_9 (fun H locs hw => ?_)
    refine lv_goto (tgt := 21) B.hx B.hb dL_answerAnew_10 (by decide) ?_
    refine lv_iconst (v := 0) B.hx B.hb dL_answerAnew_21 (by decide) ?_
    exact w_iret B hr hlk hw (by rw [h0]; decide) (fun _ => rfl) (Nat.le_of_ble_eq_true rfl) (Nat.le_of_ble_eq_true rfl) dL_answerAnew_22
abbrev rmw_step : Room := { frames := 9, cells := 3, slots := 18, locals := 157 }
set_option maxRecDepth 100000 in
set_option maxHeartbeats 4000000 in
theorem c_L_step (l : Launch) (hfl : l.stackTraces = false) (X : XT) (o : Nat) (p1 : Int32) (p2 : Int32) (p3 : Int32) (p4 : Int32) (p5 : Int32) (p6 : Int32) (M : Mem) (f : Nat → Int64) (rs : XR) (hf : f_X10_step 5000 p1 p2 p3 p4 p5 p6 M = some rs) (hk : kk kmI rs.1) (sz : Nat) : vx_Met l yL_step (Cond.codeWith yL_step cL_step 9 (some .int) [(0, 18, 21, 13), (0, 18, 25, 15), (0, 18, 29, 17)] :: BIG) rmw_step (va_Pc [.ref (X.2.2 0), .int p1, .int p2, .int p3, .int p4, .int p5, .int p6, .ref o] (PO X o M f sz)) (WQ X o kmI pvI rs sz) (WX X o sz) 3 18 (AO X o sz) := by
  refine wx_go (by decide +kernel) (Nat.le_of_ble_eq_true rfl) ?_
  intro p e s m args below meth c hsz B hr hlk hxt hw ls hl
  subst hsz
  have hl : lv_has ls 9 [(0, .ref (X.2.2 0)), (1, .int p1), (2, .int p2), (3, .int p3), (4, .int p4), (5, .int p5), (6, .int p6), (7, .ref o)] := hl
  have h123 : rs.1 = 0 ∨ rs.1 = 1 ∨ rs.1 = 2 ∨ rs.1 = 3 := by have := hk.1; omega
  refine lv_aload B.hx B.hb dL_step_0 (lv_at hl 7 rfl) ?_
  refine lv_iconst (v := 0) B.hx B.hb dL_step_2 (by decide) ?_
  refine lv_aload_n B.hx B.hb dL_step_3 rfl (lv_at hl 0 rfl) ?_
  refine lv_iload_n B.hx B.hb dL_step_4 rfl (lv_at hl 1 rfl) ?_
  refine lv_iload_n B.hx B.hb dL_step_5 rfl (lv_at hl 2 rfl) ?_
  refine lv_iload_n B.hx B.hb dL_step_6 rfl (lv_at hl 3 rfl) ?_
  refine lv_iload B.hx B.hb dL_step_7 (lv_at hl 4 rfl) ?_
  refine lv_iload B.hx B.hb dL_step_9 (lv_at hl 5 rfl) ?_
  refine lv_iload B.hx B.hb dL_step_11 (lv_at hl 6 rfl) ?_
  refine w_calli (As := [.int p1, .int p2, .int p3, .int p4, .int p5, .int p6]) (rest := [.int 0, .ref o]) B hw (c_X10_step l hfl X 5000 p1 p2 p3 p4 p5 p6 M rs hf _) cv_L_90 rfl rfl hl.1 rfl rfl ⟨(Nat.le_of_ble_eq_true rfl), (Nat.le_of_ble_eq_true rfl)⟩ (Nat.le_of_ble_eq_true rfl) ⟨(Nat.le_of_ble_eq_true rfl), (Nat.le_of_ble_eq_true rfl)⟩ dL_step_13 rfl (fun E ce q9 H locs h0 hE hw hce hcv hcl => ?_) (fun h0 H locs hw => ?_)
  · rcases h123 with h | h | h | h
    · exact absurd h h0
    · rw [h] at hE
      subst hE
      refine vx_catch (own := RL) (name := exn 1) B.hown (tableOf []) ⟨0, 18, 21, 13⟩ (tableOf [(0, 18, 25, 15), (0, 18, 29, 17)]) hxt (fun _ h9 => nomatch h9) (by decide) (by decide) (B.hts _ bl_1) (w_cast B 1 (by decide) (by decide)) hce hcv hcl ?_
      refine lv_astore (lv' := [(8, .ref q9), (0, .ref (X.2.2 0)), (1, .int p1), (2, .int p2), (3, .int p3), (4, .int p4), (5, .int p5), (6, .int p6), (7, .ref o)]) B.hx B.hb dL_step_21 hl (by decide) rfl (fun ls hl => ?_)
      refine lv_iconst (v := 1) B.hx B.hb dL_step_23 (by decide) ?_
      exact w_iret B hr hlk hw (by rw [h]; decide) (fun h9 => absurd h9 h0) (Nat.le_of_ble_eq_true rfl) (Nat.le_of_ble_eq_true rfl) dL_step_24
    · rw [h] at hE
      subst hE
      refine vx_catch (own := RL) (name := exn 2) B.hown (tableOf [(0, 18, 21, 13)]) ⟨0, 18, 25, 15⟩ (tableOf [(0, 18, 29, 17)]) hxt (List.forall_mem_cons.mpr ⟨w_ps1 B 2 (by decide) (by decide) (by decide), (fun _ h9 => nomatch h9)⟩) (by decide) (by decide) (B.hts _ bl_2) (w_cast B 2 (by decide) (by decide)) hce hcv hcl ?_
      refine lv_astore (lv' := [(8, .ref q9), (0, .ref (X.2.2 0)), (1, .int p1), (2, .int p2), (3, .int p3), (4, .int p4), (5, .int p5), (6, .int p6), (7, .ref o)]) B.hx B.hb dL_step_25 hl (by decide) rfl (fun ls hl => ?_)
      refine lv_iconst (v := 2) B.hx B.hb dL_step_27 (by decide) ?_
      exact w_iret B hr hlk hw (by rw [h]; decide) (fun h9 => absurd h9 h0) (Nat.le_of_ble_eq_true rfl) (Nat.le_of_ble_eq_true rfl) dL_step_28
    · rw [h] at hE
      subst hE
      refine vx_catch (own := RL) (name := exn 3) B.hown (tableOf [(0, 18, 21, 13), (0, 18, 25, 15)]) ⟨0, 18, 29, 17⟩ (tableOf []) hxt (List.forall_mem_cons.mpr ⟨w_ps1 B 3 (by decide) (by decide) (by decide), (List.forall_mem_cons.mpr ⟨w_ps2 B 3 (by decide) (by decide) (by decide), (fun _ h9 => nomatch h9)⟩)⟩) (by decide) (by decide) (B.hts _ bl_3) (w_cast B 3 (by decide) (by decide)) hce hcv hcl ?_
      refine lv_astore (lv' := [(8, .ref q9), (0, .ref (X.2.2 0)), (1, .int p1), (2, .int p2), (3, .int p3), (4, .int p4), (5, .int p5), (6, .int p6), (7, .ref o)]) B.hx B.hb dL_step_29 hl (by decide) rfl (fun ls hl => ?_)
      refine lv_iconst (v := 3) B.hx B.hb dL_step_31 (by decide) ?_
      exact w_iret B hr hlk hw (by rw [h]; decide) (fun h9 => absurd h9 h0) (Nat.le_of_ble_eq_true rfl) (Nat.le_of_ble_eq_true rfl) dL_step_32
  · refine lv_i2l (v := rs.2.1.toInt64) B.hx B.hb dL_step_16 rfl ?_
    refine w_last B hw dL_step_17 (fun H locs hw => ?_)
    refine lv_goto (tgt := 33) B.hx B.hb dL_step_18 (by decide) ?_
    refine lv_iconst (v := 0) B.hx B.hb dL_step_33 (by decide) ?_
    exact w_iret B hr hlk hw (by rw [h0]; decide) (fun _ => rfl) (Nat.le_of_ble_eq_true rfl) (Nat.le_of_ble_eq_true rfl) dL_step_34
abbrev rmw_run : Room := { frames := 8, cells := 1, slots := 6, locals := 190 }
set_option maxRecDepth 100000 in
set_option maxHeartbeats 4000000 in
theorem c_L_run (l : Launch) (hfl : l.stackTraces = false) (X : XT) (o : Nat) (M : Mem) (f : Nat → Int64) (rs : XR) (hf : f_X10_run 5000 M = some rs) (hk : kk kmR rs.1) (sz : Nat) : vx_Met l yL_run (Cond.codeWith yL_run cL_run 3 (some .int) [(0, 8, 11, 17)] :: BIG) rmw_run (va_Pc [.ref (X.2.2 0), .ref o] (PO X o M f sz)) (WQ X o kmR pvI rs sz) (WX X o sz) 1 6 (AO X o sz) := by
  refine wx_go (by decide +kernel) (Nat.le_of_ble_eq_true rfl) ?_
  intro p e s m args below meth c hsz B hr hlk hxt hw ls hl
  subst hsz
  have hl : lv_has ls 3 [(0, .ref (X.2.2 0)), (1, .ref o)] := hl
  have h123 : rs.1 = 0 ∨ rs.1 = 1 ∨ rs.1 = 2 ∨ rs.1 = 3 := by have := hk.1; omega
  refine lv_aload_n B.hx B.hb dL_run_0 rfl (lv_at hl 1 rfl) ?_
  refine lv_iconst (v := 0) B.hx B.hb dL_run_1 (by decide) ?_
  refine lv_aload_n B.hx B.hb dL_run_2 rfl (lv_at hl 0 rfl) ?_
  refine w_calli (As := []) (rest := [.int 0, .ref o]) B hw (c_X10_run l hfl X 5000 M rs hf _) cv_L_94 rfl rfl hl.1 rfl rfl ⟨(Nat.le_of_ble_eq_true rfl), (Nat.le_of_ble_eq_true rfl)⟩ (Nat.le_of_ble_eq_true rfl) ⟨(Nat.le_of_ble_eq_true rfl), (Nat.le_of_ble_eq_true rfl)⟩ dL_run_3 rfl (fun E ce q9 H locs h0 hE hw hce hcv hcl => ?_) (fun h0 H locs hw => ?_)
  · rcases h123 with h | h | h | h
    · exact absurd h h0
    · exact absurd hk.2.1 (by rw [h]; decide)
    · exact absurd hk.2.1 (by rw [h]; decide)
    · rw [h] at hE
      subst hE
      refine vx_catch (own := RL) (name := exn 3) B.hown (tableOf []) ⟨0, 8, 11, 17⟩ (tableOf []) hxt (fun _ h9 => nomatch h9) (by decide) (by decide) (B.hts _ bl_3) (w_cast B 3 (by decide) (by decide)) hce hcv hcl ?_
      refine lv_astore_n (lv' := [(2, .ref q9), (0, .ref (X.2.2 0)), (1, .ref o)]) B.hx B.hb dL_run_11 rfl hl (by decide) rfl (fun ls hl => ?_)
      refine lv_iconst (v := 1) B.hx B.hb dL_run_12 (by decide) ?_
      exact w_iret B hr hlk hw (by rw [h]; decide) (fun h9 => absurd h9 h0) (Nat.le_of_ble_eq_true rfl) (Nat.le_of_ble_eq_true rfl) dL_run_13
  · refine lv_i2l (v := rs.2.1.toInt64) B.hx B.hb dL_run_6 rfl ?_
    refine w_last B hw dL_run_7 (fun H locs hw => ?_)
    refine lv_goto (tgt := 14) B.hx B.hb dL_run_8 (by decide) ?_
    refine lv_iconst (v := 0) B.hx B.hb dL_run_14 (by decide) ?_
    exact w_iret B hr hlk hw (by rw [h0]; decide) (fun _ => rfl) (Nat.le_of_ble_eq_true rfl) (Nat.le_of_ble_eq_true rfl) dL_run_15
