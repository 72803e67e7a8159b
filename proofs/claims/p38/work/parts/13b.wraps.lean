theorem xv_X10_shape {fu : Nat} {p1 p2 : Int32} {M : Mem} {r : XR} (h0 : r.1 = 0) (h : f_X10_shape fu p1 p2 M = some r) : r.2.1 = 0 := by
  unfold f_X10_shape at h
  simp only [nm] at h
  unfold f_X10_needArgument at h
  split at h
  · unfold bx xer at h
    cases h
    rfl
  · unfold bx at h
    obtain ⟨_, h⟩ := grd_e h
    cases h
    rfl
theorem km_L_136 : Cond.methodLink RL 136 yL_add ∈ BIG := big_at 596 (by decide +kernel) (by decide +kernel)
theorem kt_L_add : Cond.static yL_add ∈ BIG := big_at 597 (by decide +kernel) (by decide +kernel)
theorem kc_L_add : Cond.codeWith yL_add cL_add 8 (some .int) [(0, 13, 16, 14), (0, 13, 22, 16), (0, 13, 28, 18)] ∈ BIG := big_at 598 (by decide +kernel) (by decide +kernel)
abbrev rmw_add : Room := { frames := 9, cells := 3, slots := 18, locals := 156 }
set_option maxRecDepth 100000 in
set_option maxHeartbeats 4000000 in
theorem c_L_add (l : Launch) (hfl : l.stackTraces = false) (ex : List (Nat × Nat)) (X : XT) (fu : Nat) (p1 : Int32) (p2 : Int32) (p3 : Int32) (p4 : Int32) (p5 : Int32) (M : Mem) (rs : Int32 × Mem) (hf : f_L_add fu p1 p2 p3 p4 p5 M = some rs) (sz : Nat) : vx_Met l yL_add (Cond.codeWith yL_add cL_add 8 (some .int) [(0, 13, 16, 14), (0, 13, 22, 16), (0, 13, 28, 18)] :: BIG) rmw_add (va_Pc [.ref (X.2.2 0), .int p1, .int p2, .int p3, .int p4, .int p5] (PXN (LW ex) X M sz)) (QI (LW ex) X rs.2 rs.1 sz) (WX (LW ex) X sz) 3 18 (AX (LW ex) X sz) := by
  unfold f_L_add at hf
  obtain ⟨r, hr9, h2, h1⟩ := wr_e hf
  refine wx_go (M := M) (by decide +kernel) (Nat.le_of_ble_eq_true rfl) ?_
  intro p e s m args below meth c hsz B T N9 hr hlk hxt hw ls hl
  subst hsz
  have hl : lv_has ls 8 [(0, .ref (X.2.2 0)), (1, .int p1), (2, .int p2), (3, .int p3), (4, .int p4), (5, .int p5)] := hl
  refine lv_aload_n B.hx B.hb dL_add_0 rfl (lv_at hl 0 rfl) ?_
  refine lv_iload_n B.hx B.hb dL_add_1 rfl (lv_at hl 1 rfl) ?_
  refine lv_iload_n B.hx B.hb dL_add_2 rfl (lv_at hl 2 rfl) ?_
  refine lv_iload_n B.hx B.hb dL_add_3 rfl (lv_at hl 3 rfl) ?_
  refine lv_iload B.hx B.hb dL_add_4 (lv_at hl 4 rfl) ?_
  refine lv_iload B.hx B.hb dL_add_6 (lv_at hl 5 rfl) ?_
  refine w_calli (rs := r) (As := [.int p1, .int p2, .int p3, .int p4, .int p5]) (rest := []) B T hw (c_X10_add l hfl X fu p1 p2 p3 p4 p5 M r hr9 _) cv_L_8 rfl rfl hl.1 rfl rfl ⟨(Nat.le_of_ble_eq_true rfl), (Nat.le_of_ble_eq_true rfl)⟩ (Nat.le_of_ble_eq_true rfl) ⟨(Nat.le_of_ble_eq_true rfl), (Nat.le_of_ble_eq_true rfl)⟩ dL_add_8 rfl (fun E ce q9 H locs h0 hE hw hce hcv hcl => ?_) (fun h0 H locs hw => ?_)
  · rcases h1 with ⟨h9, -⟩ | ⟨-, hin, h1⟩
    · exact absurd h9 h0
    have hin2 : r.1 = 1 ∨ r.1 = 2 ∨ r.1 = 3 := by simpa using hin
    rcases hin2 with h9 | h9 | h9
    · rw [h9] at hE h1
      subst hE
      refine vx_catch (own := RL) (name := exn 1) B.hown (tableOf []) ⟨0, 13, 16, 14⟩ (tableOf [(0, 13, 22, 16), (0, 13, 28, 18)]) hxt (fun _ h9 => nomatch h9) (by decide) (by decide) (B.hts _ bl_1) (w_cast T 1 (by decide) (by decide)) hce hcv hcl ?_
      refine lv_astore (lv' := [(7, .ref q9), (0, .ref (X.2.2 0)), (1, .int p1), (2, .int p2), (3, .int p3), (4, .int p4), (5, .int p5)]) B.hx B.hb dL_add_16 hl (by decide) rfl (fun ls hl => ?_)
      refine lv_sipush (v := (-7100)) B.hx B.hb dL_add_18 (by decide) ?_
      exact w_xret B hr hlk hw h1 h2 (Nat.le_of_ble_eq_true rfl) (Nat.le_of_ble_eq_true rfl) dL_add_21
    · rw [h9] at hE h1
      subst hE
      refine vx_catch (own := RL) (name := exn 2) B.hown (tableOf [(0, 13, 16, 14)]) ⟨0, 13, 22, 16⟩ (tableOf [(0, 13, 28, 18)]) hxt (List.forall_mem_cons.mpr ⟨w_ps1 B N9 2 (by decide) (by decide) (by decide), (fun _ h9 => nomatch h9)⟩) (by decide) (by decide) (B.hts _ bl_2) (w_cast T 2 (by decide) (by decide)) hce hcv hcl ?_
      refine lv_astore (lv' := [(7, .ref q9), (0, .ref (X.2.2 0)), (1, .int p1), (2, .int p2), (3, .int p3), (4, .int p4), (5, .int p5)]) B.hx B.hb dL_add_22 hl (by decide) rfl (fun ls hl => ?_)
      refine lv_sipush (v := (-7200)) B.hx B.hb dL_add_24 (by decide) ?_
      exact w_xret B hr hlk hw h1 h2 (Nat.le_of_ble_eq_true rfl) (Nat.le_of_ble_eq_true rfl) dL_add_27
    · rw [h9] at hE h1
      subst hE
      refine vx_catch (own := RL) (name := exn 3) B.hown (tableOf [(0, 13, 16, 14), (0, 13, 22, 16)]) ⟨0, 13, 28, 18⟩ (tableOf []) hxt (List.forall_mem_cons.mpr ⟨w_ps1 B N9 3 (by decide) (by decide) (by decide), (List.forall_mem_cons.mpr ⟨w_ps2 B N9 3 (by decide) (by decide) (by decide), (fun _ h9 => nomatch h9)⟩)⟩) (by decide) (by decide) (B.hts _ bl_3) (w_cast T 3 (by decide) (by decide)) hce hcv hcl ?_
      refine lv_astore (lv' := [(7, .ref q9), (0, .ref (X.2.2 0)), (1, .int p1), (2, .int p2), (3, .int p3), (4, .int p4), (5, .int p5)]) B.hx B.hb dL_add_28 hl (by decide) rfl (fun ls hl => ?_)
      refine lv_sipush (v := (-7300)) B.hx B.hb dL_add_30 (by decide) ?_
      exact w_xret B hr hlk hw h1 h2 (Nat.le_of_ble_eq_true rfl) (Nat.le_of_ble_eq_true rfl) dL_add_33
  · have h1 := h1.elim (fun z => z.2) (fun z => absurd h0 z.1)
    refine lv_istore (lv' := [(6, .int r.2.1), (0, .ref (X.2.2 0)), (1, .int p1), (2, .int p2), (3, .int p3), (4, .int p4), (5, .int p5)]) B.hx B.hb dL_add_11 hl (by decide) rfl (fun ls hl => ?_)
    refine lv_goto (tgt := 34) B.hx B.hb dL_add_13 (by decide) ?_
    refine lv_iload B.hx B.hb dL_add_34 (lv_at hl 0 rfl) ?_
    exact w_xret B hr hlk hw h1 h2 (Nat.le_of_ble_eq_true rfl) (Nat.le_of_ble_eq_true rfl) dL_add_36
theorem km_L_162 : Cond.methodLink RL 162 yL_change ∈ BIG := big_at 729 (by decide +kernel) (by decide +kernel)
theorem kt_L_change : Cond.static yL_change ∈ BIG := big_at 730 (by decide +kernel) (by decide +kernel)
theorem kc_L_change : Cond.codeWith yL_change cL_change 7 (some .int) [(0, 11, 14, 14), (0, 11, 20, 16)] ∈ BIG := big_at 731 (by decide +kernel) (by decide +kernel)
abbrev rmw_change : Room := { frames := 10, cells := 4, slots := 24, locals := 178 }
set_option maxRecDepth 100000 in
set_option maxHeartbeats 4000000 in
theorem c_L_change (l : Launch) (hfl : l.stackTraces = false) (ex : List (Nat × Nat)) (X : XT) (fu : Nat) (p1 : Int32) (p2 : Int32) (p3 : Int32) (p4 : Int32) (M : Mem) (rs : Int32 × Mem) (hf : f_L_change fu p1 p2 p3 p4 M = some rs) (sz : Nat) : vx_Met l yL_change (Cond.codeWith yL_change cL_change 7 (some .int) [(0, 11, 14, 14), (0, 11, 20, 16)] :: BIG) rmw_change (va_Pc [.ref (X.2.2 0), .int p1, .int p2, .int p3, .int p4] (PXN (LW ex) X M sz)) (QI (LW ex) X rs.2 rs.1 sz) (WX (LW ex) X sz) 4 24 (AX (LW ex) X sz) := by
  unfold f_L_change at hf
  obtain ⟨r, hr9, h2, h1⟩ := wr_e hf
  refine wx_go (M := M) (by decide +kernel) (Nat.le_of_ble_eq_true rfl) ?_
  intro p e s m args below meth c hsz B T N9 hr hlk hxt hw ls hl
  subst hsz
  have hl : lv_has ls 7 [(0, .ref (X.2.2 0)), (1, .int p1), (2, .int p2), (3, .int p3), (4, .int p4)] := hl
  refine lv_aload_n B.hx B.hb dL_change_0 rfl (lv_at hl 0 rfl) ?_
  refine lv_iload_n B.hx B.hb dL_change_1 rfl (lv_at hl 1 rfl) ?_
  refine lv_iload_n B.hx B.hb dL_change_2 rfl (lv_at hl 2 rfl) ?_
  refine lv_iload_n B.hx B.hb dL_change_3 rfl (lv_at hl 3 rfl) ?_
  refine lv_iload B.hx B.hb dL_change_4 (lv_at hl 4 rfl) ?_
  refine w_calli (rs := r) (As := [.int p1, .int p2, .int p3, .int p4]) (rest := []) B T hw (c_X10_change l hfl X fu p1 p2 p3 p4 M r hr9 _) cv_L_20 rfl rfl hl.1 rfl rfl ⟨(Nat.le_of_ble_eq_true rfl), (Nat.le_of_ble_eq_true rfl)⟩ (Nat.le_of_ble_eq_true rfl) ⟨(Nat.le_of_ble_eq_true rfl), (Nat.le_of_ble_eq_true rfl)⟩ dL_change_6 rfl (fun E ce q9 H locs h0 hE hw hce hcv hcl => ?_) (fun h0 H locs hw => ?_)
  · rcases h1 with ⟨h9, -⟩ | ⟨-, hin, h1⟩
    · exact absurd h9 h0
    have hin2 : r.1 = 1 ∨ r.1 = 2 := by simpa using hin
    rcases hin2 with h9 | h9
    · rw [h9] at hE h1
      subst hE
      refine vx_catch (own := RL) (name := exn 1) B.hown (tableOf []) ⟨0, 11, 14, 14⟩ (tableOf [(0, 11, 20, 16)]) hxt (fun _ h9 => nomatch h9) (by decide) (by decide) (B.hts _ bl_1) (w_cast T 1 (by decide) (by decide)) hce hcv hcl ?_
      refine lv_astore (lv' := [(6, .ref q9), (0, .ref (X.2.2 0)), (1, .int p1), (2, .int p2), (3, .int p3), (4, .int p4)]) B.hx B.hb dL_change_14 hl (by decide) rfl (fun ls hl => ?_)
      refine lv_sipush (v := (-7100)) B.hx B.hb dL_change_16 (by decide) ?_
      exact w_xret B hr hlk hw h1 h2 (Nat.le_of_ble_eq_true rfl) (Nat.le_of_ble_eq_true rfl) dL_change_19
    · rw [h9] at hE h1
      subst hE
      refine vx_catch (own := RL) (name := exn 2) B.hown (tableOf [(0, 11, 14, 14)]) ⟨0, 11, 20, 16⟩ (tableOf []) hxt (List.forall_mem_cons.mpr ⟨w_ps1 B N9 2 (by decide) (by decide) (by decide), (fun _ h9 => nomatch h9)⟩) (by decide) (by decide) (B.hts _ bl_2) (w_cast T 2 (by decide) (by decide)) hce hcv hcl ?_
      refine lv_astore (lv' := [(6, .ref q9), (0, .ref (X.2.2 0)), (1, .int p1), (2, .int p2), (3, .int p3), (4, .int p4)]) B.hx B.hb dL_change_20 hl (by decide) rfl (fun ls hl => ?_)
      refine lv_sipush (v := (-7200)) B.hx B.hb dL_change_22 (by decide) ?_
      exact w_xret B hr hlk hw h1 h2 (Nat.le_of_ble_eq_true rfl) (Nat.le_of_ble_eq_true rfl) dL_change_25
  · have h1 := h1.elim (fun z => z.2) (fun z => absurd h0 z.1)
    refine lv_istore (lv' := [(5, .int r.2.1), (0, .ref (X.2.2 0)), (1, .int p1), (2, .int p2), (3, .int p3), (4, .int p4)]) B.hx B.hb dL_change_9 hl (by decide) rfl (fun ls hl => ?_)
    refine lv_goto (tgt := 26) B.hx B.hb dL_change_11 (by decide) ?_
    refine lv_iload B.hx B.hb dL_change_26 (lv_at hl 0 rfl) ?_
    exact w_xret B hr hlk hw h1 h2 (Nat.le_of_ble_eq_true rfl) (Nat.le_of_ble_eq_true rfl) dL_change_28
theorem km_L_177 : Cond.methodLink RL 177 yL_remove ∈ BIG := big_at 767 (by decide +kernel) (by decide +kernel)
theorem kt_L_remove : Cond.static yL_remove ∈ BIG := big_at 768 (by decide +kernel) (by decide +kernel)
theorem kc_L_remove : Cond.codeWith yL_remove cL_remove 5 (some .int) [(0, 7, 10, 14)] ∈ BIG := big_at 769 (by decide +kernel) (by decide +kernel)
abbrev rmw_remove : Room := { frames := 9, cells := 2, slots := 12, locals := 153 }
set_option maxRecDepth 100000 in
set_option maxHeartbeats 4000000 in
theorem c_L_remove (l : Launch) (hfl : l.stackTraces = false) (ex : List (Nat × Nat)) (X : XT) (fu : Nat) (p1 : Int32) (p2 : Int32) (M : Mem) (rs : Int32 × Mem) (hf : f_L_remove fu p1 p2 M = some rs) (sz : Nat) : vx_Met l yL_remove (Cond.codeWith yL_remove cL_remove 5 (some .int) [(0, 7, 10, 14)] :: BIG) rmw_remove (va_Pc [.ref (X.2.2 0), .int p1, .int p2] (PXN (LW ex) X M sz)) (QI (LW ex) X rs.2 rs.1 sz) (WX (LW ex) X sz) 2 12 (AX (LW ex) X sz) := by
  unfold f_L_remove at hf
  obtain ⟨r, hr9, h2, h1⟩ := wr_e hf
  refine wx_go (M := M) (by decide +kernel) (Nat.le_of_ble_eq_true rfl) ?_
  intro p e s m args below meth c hsz B T N9 hr hlk hxt hw ls hl
  subst hsz
  have hl : lv_has ls 5 [(0, .ref (X.2.2 0)), (1, .int p1), (2, .int p2)] := hl
  refine lv_aload_n B.hx B.hb dL_remove_0 rfl (lv_at hl 0 rfl) ?_
  refine lv_iload_n B.hx B.hb dL_remove_1 rfl (lv_at hl 1 rfl) ?_
  refine lv_iload_n B.hx B.hb dL_remove_2 rfl (lv_at hl 2 rfl) ?_
  refine w_calli (rs := r) (As := [.int p1, .int p2]) (rest := []) B T hw (c_X10_remove l hfl X fu p1 p2 M r hr9 _) cv_L_24 rfl rfl hl.1 rfl rfl ⟨(Nat.le_of_ble_eq_true rfl), (Nat.le_of_ble_eq_true rfl)⟩ (Nat.le_of_ble_eq_true rfl) ⟨(Nat.le_of_ble_eq_true rfl), (Nat.le_of_ble_eq_true rfl)⟩ dL_remove_3 rfl (fun E ce q9 H locs h0 hE hw hce hcv hcl => ?_) (fun h0 H locs hw => ?_)
  · rcases h1 with ⟨h9, -⟩ | ⟨-, hin, h1⟩
    · exact absurd h9 h0
    have hin2 : r.1 = 1 := by simpa using hin
    have h9 := hin2
    · rw [h9] at hE h1
      subst hE
      refine vx_catch (own := RL) (name := exn 1) B.hown (tableOf []) ⟨0, 7, 10, 14⟩ (tableOf []) hxt (fun _ h9 => nomatch h9) (by decide) (by decide) (B.hts _ bl_1) (w_cast T 1 (by decide) (by decide)) hce hcv hcl ?_
      refine lv_astore (lv' := [(4, .ref q9), (0, .ref (X.2.2 0)), (1, .int p1), (2, .int p2)]) B.hx B.hb dL_remove_10 hl (by decide) rfl (fun ls hl => ?_)
      refine lv_sipush (v := (-7100)) B.hx B.hb dL_remove_12 (by decide) ?_
      exact w_xret B hr hlk hw h1 h2 (Nat.le_of_ble_eq_true rfl) (Nat.le_of_ble_eq_true rfl) dL_remove_15
  · have h1 := h1.elim (fun z => z.2) (fun z => absurd h0 z.1)
    refine lv_istore_n (lv' := [(3, .int r.2.1), (0, .ref (X.2.2 0)), (1, .int p1), (2, .int p2)]) B.hx B.hb dL_remove_6 rfl hl (by decide) rfl (fun ls hl => ?_)
    refine lv_goto (tgt := 16) B.hx B.hb dL_remove_7 (by decide) ?_
    refine lv_iload_n B.hx B.hb dL_remove_16 rfl (lv_at hl 0 rfl) ?_
    exact w_xret B hr hlk hw h1 h2 (Nat.le_of_ble_eq_true rfl) (Nat.le_of_ble_eq_true rfl) dL_remove_17
theorem km_L_139 : Cond.methodLink RL 139 yL_count ∈ BIG := big_at 484 (by decide +kernel) (by decide +kernel)
theorem kt_L_count : Cond.static yL_count ∈ BIG := big_at 485 (by decide +kernel) (by decide +kernel)
theorem kc_L_count : Cond.codeWith yL_count cL_count 4 (some .int) [(0, 6, 9, 14)] ∈ BIG := big_at 486 (by decide +kernel) (by decide +kernel)
abbrev rmw_count : Room := { frames := 9, cells := 1, slots := 6, locals := 152 }
set_option maxRecDepth 100000 in
set_option maxHeartbeats 4000000 in
theorem c_L_count (l : Launch) (hfl : l.stackTraces = false) (ex : List (Nat × Nat)) (X : XT) (fu : Nat) (p1 : Int32) (M : Mem) (rs : Int32 × Mem) (hf : f_L_count fu p1 M = some rs) (sz : Nat) : vx_Met l yL_count (Cond.codeWith yL_count cL_count 4 (some .int) [(0, 6, 9, 14)] :: BIG) rmw_count (va_Pc [.ref (X.2.2 0), .int p1] (PXN (LW ex) X M sz)) (QI (LW ex) X rs.2 rs.1 sz) (WX (LW ex) X sz) 1 6 (AX (LW ex) X sz) := by
  unfold f_L_count at hf
  obtain ⟨r, hr9, h2, h1⟩ := wr_e hf
  refine wx_go (M := M) (by decide +kernel) (Nat.le_of_ble_eq_true rfl) ?_
  intro p e s m args below meth c hsz B T N9 hr hlk hxt hw ls hl
  subst hsz
  have hl : lv_has ls 4 [(0, .ref (X.2.2 0)), (1, .int p1)] := hl
  refine lv_aload_n B.hx B.hb dL_count_0 rfl (lv_at hl 0 rfl) ?_
  refine lv_iload_n B.hx B.hb dL_count_1 rfl (lv_at hl 1 rfl) ?_
  refine w_calli (rs := r) (As := [.int p1]) (rest := []) B T hw (c_X10_count l hfl X fu p1 M r hr9 _) cv_L_28 rfl rfl hl.1 rfl rfl ⟨(Nat.le_of_ble_eq_true rfl), (Nat.le_of_ble_eq_true rfl)⟩ (Nat.le_of_ble_eq_true rfl) ⟨(Nat.le_of_ble_eq_true rfl), (Nat.le_of_ble_eq_true rfl)⟩ dL_count_2 rfl (fun E ce q9 H locs h0 hE hw hce hcv hcl => ?_) (fun h0 H locs hw => ?_)
  · rcases h1 with ⟨h9, -⟩ | ⟨-, hin, h1⟩
    · exact absurd h9 h0
    have hin2 : r.1 = 1 := by simpa using hin
    have h9 := hin2
    · rw [h9] at hE h1
      subst hE
      refine vx_catch (own := RL) (name := exn 1) B.hown (tableOf []) ⟨0, 6, 9, 14⟩ (tableOf []) hxt (fun _ h9 => nomatch h9) (by decide) (by decide) (B.hts _ bl_1) (w_cast T 1 (by decide) (by decide)) hce hcv hcl ?_
      refine lv_astore_n (lv' := [(3, .ref q9), (0, .ref (X.2.2 0)), (1, .int p1)]) B.hx B.hb dL_count_9 rfl hl (by decide) rfl (fun ls hl => ?_)
      refine lv_sipush (v := (-7100)) B.hx B.hb dL_count_10 (by decide) ?_
      exact w_xret B hr hlk hw h1 h2 (Nat.le_of_ble_eq_true rfl) (Nat.le_of_ble_eq_true rfl) dL_count_13
  · have h1 := h1.elim (fun z => z.2) (fun z => absurd h0 z.1)
    refine lv_istore_n (lv' := [(2, .int r.2.1), (0, .ref (X.2.2 0)), (1, .int p1)]) B.hx B.hb dL_count_5 rfl hl (by decide) rfl (fun ls hl => ?_)
    refine lv_goto (tgt := 14) B.hx B.hb dL_count_6 (by decide) ?_
    refine lv_iload_n B.hx B.hb dL_count_14 rfl (lv_at hl 0 rfl) ?_
    exact w_xret B hr hlk hw h1 h2 (Nat.le_of_ble_eq_true rfl) (Nat.le_of_ble_eq_true rfl) dL_count_15
theorem km_L_320 : Cond.methodLink RL 320 yL_cellOf ∈ BIG := big_at 1319 (by decide +kernel) (by decide +kernel)
theorem kt_L_cellOf : Cond.static yL_cellOf ∈ BIG := big_at 1320 (by decide +kernel) (by decide +kernel)
theorem kc_L_cellOf : Cond.codeWith yL_cellOf cL_cellOf 6 (some .int) [(0, 9, 12, 14)] ∈ BIG := big_at 1321 (by decide +kernel) (by decide +kernel)
abbrev rmw_cellOf : Room := { frames := 10, cells := 3, slots := 18, locals := 178 }
set_option maxRecDepth 100000 in
set_option maxHeartbeats 4000000 in
theorem c_L_cellOf (l : Launch) (hfl : l.stackTraces = false) (ex : List (Nat × Nat)) (X : XT) (fu : Nat) (p1 : Int32) (p2 : Int32) (p3 : Int32) (M : Mem) (rs : Int32 × Mem) (hf : f_L_cellOf fu p1 p2 p3 M = some rs) (sz : Nat) : vx_Met l yL_cellOf (Cond.codeWith yL_cellOf cL_cellOf 6 (some .int) [(0, 9, 12, 14)] :: BIG) rmw_cellOf (va_Pc [.ref (X.2.2 0), .int p1, .int p2, .int p3] (PXN (LW ex) X M sz)) (QI (LW ex) X rs.2 rs.1 sz) (WX (LW ex) X sz) 3 18 (AX (LW ex) X sz) := by
  unfold f_L_cellOf at hf
  obtain ⟨r, hr9, h2, h1⟩ := wr_e hf
  refine wx_go (M := M) (by decide +kernel) (Nat.le_of_ble_eq_true rfl) ?_
  intro p e s m args below meth c hsz B T N9 hr hlk hxt hw ls hl
  subst hsz
  have hl : lv_has ls 6 [(0, .ref (X.2.2 0)), (1, .int p1), (2, .int p2), (3, .int p3)] := hl
  refine lv_aload_n B.hx B.hb dL_cellOf_0 rfl (lv_at hl 0 rfl) ?_
  refine lv_iload_n B.hx B.hb dL_cellOf_1 rfl (lv_at hl 1 rfl) ?_
  refine lv_iload_n B.hx B.hb dL_cellOf_2 rfl (lv_at hl 2 rfl) ?_
  refine lv_iload_n B.hx B.hb dL_cellOf_3 rfl (lv_at hl 3 rfl) ?_
  refine w_calli (rs := r) (As := [.int p1, .int p2, .int p3]) (rest := []) B T hw (c_X10_cell l hfl X fu p1 p2 p3 M r hr9 _) cv_L_32 rfl rfl hl.1 rfl rfl ⟨(Nat.le_of_ble_eq_true rfl), (Nat.le_of_ble_eq_true rfl)⟩ (Nat.le_of_ble_eq_true rfl) ⟨(Nat.le_of_ble_eq_true rfl), (Nat.le_of_ble_eq_true rfl)⟩ dL_cellOf_4 rfl (fun E ce q9 H locs h0 hE hw hce hcv hcl => ?_) (fun h0 H locs hw => ?_)
  · rcases h1 with ⟨h9, -⟩ | ⟨-, hin, h1⟩
    · exact absurd h9 h0
    have hin2 : r.1 = 1 := by simpa using hin
    have h9 := hin2
    · rw [h9] at hE h1
      subst hE
      refine vx_catch (own := RL) (name := exn 1) B.hown (tableOf []) ⟨0, 9, 12, 14⟩ (tableOf []) hxt (fun _ h9 => nomatch h9) (by decide) (by decide) (B.hts _ bl_1) (w_cast T 1 (by decide) (by decide)) hce hcv hcl ?_
      refine lv_astore (lv' := [(5, .ref q9), (0, .ref (X.2.2 0)), (1, .int p1), (2, .int p2), (3, .int p3)]) B.hx B.hb dL_cellOf_12 hl (by decide) rfl (fun ls hl => ?_)
      refine lv_sipush (v := (-7100)) B.hx B.hb dL_cellOf_14 (by decide) ?_
      exact w_xret B hr hlk hw h1 h2 (Nat.le_of_ble_eq_true rfl) (Nat.le_of_ble_eq_true rfl) dL_cellOf_17
  · have h1 := h1.elim (fun z => z.2) (fun z => absurd h0 z.1)
    refine lv_istore (lv' := [(4, .int r.2.1), (0, .ref (X.2.2 0)), (1, .int p1), (2, .int p2), (3, .int p3)]) B.hx B.hb dL_cellOf_7 hl (by decide) rfl (fun ls hl => ?_)
    refine lv_goto (tgt := 18) B.hx B.hb dL_cellOf_9 (by decide) ?_
    refine lv_iload B.hx B.hb dL_cellOf_18 (lv_at hl 0 rfl) ?_
    exact w_xret B hr hlk hw h1 h2 (Nat.le_of_ble_eq_true rfl) (Nat.le_of_ble_eq_true rfl) dL_cellOf_20
theorem km_L_184 : Cond.methodLink RL 184 yL_setPace ∈ BIG := big_at 788 (by decide +kernel) (by decide +kernel)
theorem kt_L_setPace : Cond.static yL_setPace ∈ BIG := big_at 789 (by decide +kernel) (by decide +kernel)
theorem kc_L_setPace : Cond.codeWith yL_setPace cL_setPace 6 (some .int) [(0, 9, 12, 14), (0, 9, 18, 16)] ∈ BIG := big_at 790 (by decide +kernel) (by decide +kernel)
abbrev rmw_setPace : Room := { frames := 9, cells := 2, slots := 12, locals := 155 }
set_option maxRecDepth 100000 in
set_option maxHeartbeats 4000000 in
theorem c_L_setPace (l : Launch) (hfl : l.stackTraces = false) (ex : List (Nat × Nat)) (X : XT) (fu : Nat) (p1 : Int32) (p2 : Int32) (p3 : Int32) (M : Mem) (rs : Int32 × Mem) (hf : f_L_setPace fu p1 p2 p3 M = some rs) (sz : Nat) : vx_Met l yL_setPace (Cond.codeWith yL_setPace cL_setPace 6 (some .int) [(0, 9, 12, 14), (0, 9, 18, 16)] :: BIG) rmw_setPace (va_Pc [.ref (X.2.2 0), .int p1, .int p2, .int p3] (PXN (LW ex) X M sz)) (QI (LW ex) X rs.2 rs.1 sz) (WX (LW ex) X sz) 2 12 (AX (LW ex) X sz) := by
  unfold f_L_setPace at hf
  obtain ⟨r, hr9, h2, h1⟩ := wr_e hf
  refine wx_go (M := M) (by decide +kernel) (Nat.le_of_ble_eq_true rfl) ?_
  intro p e s m args below meth c hsz B T N9 hr hlk hxt hw ls hl
  subst hsz
  have hl : lv_has ls 6 [(0, .ref (X.2.2 0)), (1, .int p1), (2, .int p2), (3, .int p3)] := hl
  refine lv_aload_n B.hx B.hb dL_setPace_0 rfl (lv_at hl 0 rfl) ?_
  refine lv_iload_n B.hx B.hb dL_setPace_1 rfl (lv_at hl 1 rfl) ?_
  refine lv_iload_n B.hx B.hb dL_setPace_2 rfl (lv_at hl 2 rfl) ?_
  refine lv_iload_n B.hx B.hb dL_setPace_3 rfl (lv_at hl 3 rfl) ?_
  refine w_calli (rs := r) (As := [.int p1, .int p2, .int p3]) (rest := []) B T hw (c_X10_setPace l hfl X fu p1 p2 p3 M r hr9 _) cv_L_36 rfl rfl hl.1 rfl rfl ⟨(Nat.le_of_ble_eq_true rfl), (Nat.le_of_ble_eq_true rfl)⟩ (Nat.le_of_ble_eq_true rfl) ⟨(Nat.le_of_ble_eq_true rfl), (Nat.le_of_ble_eq_true rfl)⟩ dL_setPace_4 rfl (fun E ce q9 H locs h0 hE hw hce hcv hcl => ?_) (fun h0 H locs hw => ?_)
  · rcases h1 with ⟨h9, -⟩ | ⟨-, hin, h1⟩
    · exact absurd h9 h0
    have hin2 : r.1 = 1 ∨ r.1 = 2 := by simpa using hin
    rcases hin2 with h9 | h9
    · rw [h9] at hE h1
      subst hE
      refine vx_catch (own := RL) (name := exn 1) B.hown (tableOf []) ⟨0, 9, 12, 14⟩ (tableOf [(0, 9, 18, 16)]) hxt (fun _ h9 => nomatch h9) (by decide) (by decide) (B.hts _ bl_1) (w_cast T 1 (by decide) (by decide)) hce hcv hcl ?_
      refine lv_astore (lv' := [(5, .ref q9), (0, .ref (X.2.2 0)), (1, .int p1), (2, .int p2), (3, .int p3)]) B.hx B.hb dL_setPace_12 hl (by decide) rfl (fun ls hl => ?_)
      refine lv_sipush (v := (-7100)) B.hx B.hb dL_setPace_14 (by decide) ?_
      exact w_xret B hr hlk hw h1 h2 (Nat.le_of_ble_eq_true rfl) (Nat.le_of_ble_eq_true rfl) dL_setPace_17
    · rw [h9] at hE h1
      subst hE
      refine vx_catch (own := RL) (name := exn 2) B.hown (tableOf [(0, 9, 12, 14)]) ⟨0, 9, 18, 16⟩ (tableOf []) hxt (List.forall_mem_cons.mpr ⟨w_ps1 B N9 2 (by decide) (by decide) (by decide), (fun _ h9 => nomatch h9)⟩) (by decide) (by decide) (B.hts _ bl_2) (w_cast T 2 (by decide) (by decide)) hce hcv hcl ?_
      refine lv_astore (lv' := [(5, .ref q9), (0, .ref (X.2.2 0)), (1, .int p1), (2, .int p2), (3, .int p3)]) B.hx B.hb dL_setPace_18 hl (by decide) rfl (fun ls hl => ?_)
      refine lv_sipush (v := (-7200)) B.hx B.hb dL_setPace_20 (by decide) ?_
      exact w_xret B hr hlk hw h1 h2 (Nat.le_of_ble_eq_true rfl) (Nat.le_of_ble_eq_true rfl) dL_setPace_23
  · have h1 := h1.elim (fun z => z.2) (fun z => absurd h0 z.1)
    refine lv_istore (lv' := [(4, .int r.2.1), (0, .ref (X.2.2 0)), (1, .int p1), (2, .int p2), (3, .int p3)]) B.hx B.hb dL_setPace_7 hl (by decide) rfl (fun ls hl => ?_)
    refine lv_goto (tgt := 24) B.hx B.hb dL_setPace_9 (by decide) ?_
    refine lv_iload B.hx B.hb dL_setPace_24 (lv_at hl 0 rfl) ?_
    exact w_xret B hr hlk hw h1 h2 (Nat.le_of_ble_eq_true rfl) (Nat.le_of_ble_eq_true rfl) dL_setPace_26
theorem km_L_187 : Cond.methodLink RL 187 yL_setBounds ∈ BIG := big_at 795 (by decide +kernel) (by decide +kernel)
theorem kt_L_setBounds : Cond.static yL_setBounds ∈ BIG := big_at 796 (by decide +kernel) (by decide +kernel)
theorem kc_L_setBounds : Cond.codeWith yL_setBounds cL_setBounds 6 (some .int) [(0, 9, 12, 14), (0, 9, 18, 16)] ∈ BIG := big_at 797 (by decide +kernel) (by decide +kernel)
abbrev rmw_setBounds : Room := { frames := 9, cells := 2, slots := 12, locals := 155 }
set_option maxRecDepth 100000 in
set_option maxHeartbeats 4000000 in
theorem c_L_setBounds (l : Launch) (hfl : l.stackTraces = false) (ex : List (Nat × Nat)) (X : XT) (fu : Nat) (p1 : Int32) (p2 : Int32) (p3 : Int32) (M : Mem) (rs : Int32 × Mem) (hf : f_L_setBounds fu p1 p2 p3 M = some rs) (sz : Nat) : vx_Met l yL_setBounds (Cond.codeWith yL_setBounds cL_setBounds 6 (some .int) [(0, 9, 12, 14), (0, 9, 18, 16)] :: BIG) rmw_setBounds (va_Pc [.ref (X.2.2 0), .int p1, .int p2, .int p3] (PXN (LW ex) X M sz)) (QI (LW ex) X rs.2 rs.1 sz) (WX (LW ex) X sz) 2 12 (AX (LW ex) X sz) := by
  unfold f_L_setBounds at hf
  obtain ⟨r, hr9, h2, h1⟩ := wr_e hf
  refine wx_go (M := M) (by decide +kernel) (Nat.le_of_ble_eq_true rfl) ?_
  intro p e s m args below meth c hsz B T N9 hr hlk hxt hw ls hl
  subst hsz
  have hl : lv_has ls 6 [(0, .ref (X.2.2 0)), (1, .int p1), (2, .int p2), (3, .int p3)] := hl
  refine lv_aload_n B.hx B.hb dL_setBounds_0 rfl (lv_at hl 0 rfl) ?_
  refine lv_iload_n B.hx B.hb dL_setBounds_1 rfl (lv_at hl 1 rfl) ?_
  refine lv_iload_n B.hx B.hb dL_setBounds_2 rfl (lv_at hl 2 rfl) ?_
  refine lv_iload_n B.hx B.hb dL_setBounds_3 rfl (lv_at hl 3 rfl) ?_
  refine w_calli (rs := r) (As := [.int p1, .int p2, .int p3]) (rest := []) B T hw (c_X10_setBounds l hfl X fu p1 p2 p3 M r hr9 _) cv_L_39 rfl rfl hl.1 rfl rfl ⟨(Nat.le_of_ble_eq_true rfl), (Nat.le_of_ble_eq_true rfl)⟩ (Nat.le_of_ble_eq_true rfl) ⟨(Nat.le_of_ble_eq_true rfl), (Nat.le_of_ble_eq_true rfl)⟩ dL_setBounds_4 rfl (fun E ce q9 H locs h0 hE hw hce hcv hcl => ?_) (fun h0 H locs hw => ?_)
  · rcases h1 with ⟨h9, -⟩ | ⟨-, hin, h1⟩
    · exact absurd h9 h0
    have hin2 : r.1 = 1 ∨ r.1 = 2 := by simpa using hin
    rcases hin2 with h9 | h9
    · rw [h9] at hE h1
      subst hE
      refine vx_catch (own := RL) (name := exn 1) B.hown (tableOf []) ⟨0, 9, 12, 14⟩ (tableOf [(0, 9, 18, 16)]) hxt (fun _ h9 => nomatch h9) (by decide) (by decide) (B.hts _ bl_1) (w_cast T 1 (by decide) (by decide)) hce hcv hcl ?_
      refine lv_astore (lv' := [(5, .ref q9), (0, .ref (X.2.2 0)), (1, .int p1), (2, .int p2), (3, .int p3)]) B.hx B.hb dL_setBounds_12 hl (by decide) rfl (fun ls hl => ?_)
      refine lv_sipush (v := (-7100)) B.hx B.hb dL_setBounds_14 (by decide) ?_
      exact w_xret B hr hlk hw h1 h2 (Nat.le_of_ble_eq_true rfl) (Nat.le_of_ble_eq_true rfl) dL_setBounds_17
    · rw [h9] at hE h1
      subst hE
      refine vx_catch (own := RL) (name := exn 2) B.hown (tableOf [(0, 9, 12, 14)]) ⟨0, 9, 18, 16⟩ (tableOf []) hxt (List.forall_mem_cons.mpr ⟨w_ps1 B N9 2 (by decide) (by decide) (by decide), (fun _ h9 => nomatch h9)⟩) (by decide) (by decide) (B.hts _ bl_2) (w_cast T 2 (by decide) (by decide)) hce hcv hcl ?_
      refine lv_astore (lv' := [(5, .ref q9), (0, .ref (X.2.2 0)), (1, .int p1), (2, .int p2), (3, .int p3)]) B.hx B.hb dL_setBounds_18 hl (by decide) rfl (fun ls hl => ?_)
      refine lv_sipush (v := (-7200)) B.hx B.hb dL_setBounds_20 (by decide) ?_
      exact w_xret B hr hlk hw h1 h2 (Nat.le_of_ble_eq_true rfl) (Nat.le_of_ble_eq_true rfl) dL_setBounds_23
  · have h1 := h1.elim (fun z => z.2) (fun z => absurd h0 z.1)
    refine lv_istore (lv' := [(4, .int r.2.1), (0, .ref (X.2.2 0)), (1, .int p1), (2, .int p2), (3, .int p3)]) B.hx B.hb dL_setBounds_7 hl (by decide) rfl (fun ls hl => ?_)
    refine lv_goto (tgt := 24) B.hx B.hb dL_setBounds_9 (by decide) ?_
    refine lv_iload B.hx B.hb dL_setBounds_24 (lv_at hl 0 rfl) ?_
    exact w_xret B hr hlk hw h1 h2 (Nat.le_of_ble_eq_true rfl) (Nat.le_of_ble_eq_true rfl) dL_setBounds_26
theorem km_L_189 : Cond.methodLink RL 189 yL_setLease ∈ BIG := big_at 802 (by decide +kernel) (by decide +kernel)
theorem kt_L_setLease : Cond.static yL_setLease ∈ BIG := big_at 803 (by decide +kernel) (by decide +kernel)
theorem kc_L_setLease : Cond.codeWith yL_setLease cL_setLease 5 (some .int) [(0, 7, 10, 14), (0, 7, 16, 16)] ∈ BIG := big_at 804 (by decide +kernel) (by decide +kernel)
abbrev rmw_setLease : Room := { frames := 9, cells := 2, slots := 12, locals := 154 }
set_option maxRecDepth 100000 in
set_option maxHeartbeats 4000000 in
theorem c_L_setLease (l : Launch) (hfl : l.stackTraces = false) (ex : List (Nat × Nat)) (X : XT) (fu : Nat) (p1 : Int32) (p2 : Int32) (M : Mem) (rs : Int32 × Mem) (hf : f_L_setLease fu p1 p2 M = some rs) (sz : Nat) : vx_Met l yL_setLease (Cond.codeWith yL_setLease cL_setLease 5 (some .int) [(0, 7, 10, 14), (0, 7, 16, 16)] :: BIG) rmw_setLease (va_Pc [.ref (X.2.2 0), .int p1, .int p2] (PXN (LW ex) X M sz)) (QI (LW ex) X rs.2 rs.1 sz) (WX (LW ex) X sz) 2 12 (AX (LW ex) X sz) := by
  unfold f_L_setLease at hf
  obtain ⟨r, hr9, h2, h1⟩ := wr_e hf
  refine wx_go (M := M) (by decide +kernel) (Nat.le_of_ble_eq_true rfl) ?_
  intro p e s m args below meth c hsz B T N9 hr hlk hxt hw ls hl
  subst hsz
  have hl : lv_has ls 5 [(0, .ref (X.2.2 0)), (1, .int p1), (2, .int p2)] := hl
  refine lv_aload_n B.hx B.hb dL_setLease_0 rfl (lv_at hl 0 rfl) ?_
  refine lv_iload_n B.hx B.hb dL_setLease_1 rfl (lv_at hl 1 rfl) ?_
  refine lv_iload_n B.hx B.hb dL_setLease_2 rfl (lv_at hl 2 rfl) ?_
  refine w_calli (rs := r) (As := [.int p1, .int p2]) (rest := []) B T hw (c_X10_setLease l hfl X fu p1 p2 M r hr9 _) cv_L_42 rfl rfl hl.1 rfl rfl ⟨(Nat.le_of_ble_eq_true rfl), (Nat.le_of_ble_eq_true rfl)⟩ (Nat.le_of_ble_eq_true rfl) ⟨(Nat.le_of_ble_eq_true rfl), (Nat.le_of_ble_eq_true rfl)⟩ dL_setLease_3 rfl (fun E ce q9 H locs h0 hE hw hce hcv hcl => ?_) (fun h0 H locs hw => ?_)
  · rcases h1 with ⟨h9, -⟩ | ⟨-, hin, h1⟩
    · exact absurd h9 h0
    have hin2 : r.1 = 1 ∨ r.1 = 2 := by simpa using hin
    rcases hin2 with h9 | h9
    · rw [h9] at hE h1
      subst hE
      refine vx_catch (own := RL) (name := exn 1) B.hown (tableOf []) ⟨0, 7, 10, 14⟩ (tableOf [(0, 7, 16, 16)]) hxt (fun _ h9 => nomatch h9) (by decide) (by decide) (B.hts _ bl_1) (w_cast T 1 (by decide) (by decide)) hce hcv hcl ?_
      refine lv_astore (lv' := [(4, .ref q9), (0, .ref (X.2.2 0)), (1, .int p1), (2, .int p2)]) B.hx B.hb dL_setLease_10 hl (by decide) rfl (fun ls hl => ?_)
      refine lv_sipush (v := (-7100)) B.hx B.hb dL_setLease_12 (by decide) ?_
      exact w_xret B hr hlk hw h1 h2 (Nat.le_of_ble_eq_true rfl) (Nat.le_of_ble_eq_true rfl) dL_setLease_15
    · rw [h9] at hE h1
      subst hE
      refine vx_catch (own := RL) (name := exn 2) B.hown (tableOf [(0, 7, 10, 14)]) ⟨0, 7, 16, 16⟩ (tableOf []) hxt (List.forall_mem_cons.mpr ⟨w_ps1 B N9 2 (by decide) (by decide) (by decide), (fun _ h9 => nomatch h9)⟩) (by decide) (by decide) (B.hts _ bl_2) (w_cast T 2 (by decide) (by decide)) hce hcv hcl ?_
      refine lv_astore (lv' := [(4, .ref q9), (0, .ref (X.2.2 0)), (1, .int p1), (2, .int p2)]) B.hx B.hb dL_setLease_16 hl (by decide) rfl (fun ls hl => ?_)
      refine lv_sipush (v := (-7200)) B.hx B.hb dL_setLease_18 (by decide) ?_
      exact w_xret B hr hlk hw h1 h2 (Nat.le_of_ble_eq_true rfl) (Nat.le_of_ble_eq_true rfl) dL_setLease_21
  · have h1 := h1.elim (fun z => z.2) (fun z => absurd h0 z.1)
    refine lv_istore_n (lv' := [(3, .int r.2.1), (0, .ref (X.2.2 0)), (1, .int p1), (2, .int p2)]) B.hx B.hb dL_setLease_6 rfl hl (by decide) rfl (fun ls hl => ?_)
    refine lv_goto (tgt := 22) B.hx B.hb dL_setLease_7 (by decide) ?_
    refine lv_iload_n B.hx B.hb dL_setLease_22 rfl (lv_at hl 0 rfl) ?_
    exact w_xret B hr hlk hw h1 h2 (Nat.le_of_ble_eq_true rfl) (Nat.le_of_ble_eq_true rfl) dL_setLease_23
theorem km_L_191 : Cond.methodLink RL 191 yL_fail ∈ BIG := big_at 810 (by decide +kernel) (by decide +kernel)
theorem kt_L_fail : Cond.static yL_fail ∈ BIG := big_at 811 (by decide +kernel) (by decide +kernel)
theorem kc_L_fail : Cond.codeWith yL_fail cL_fail 6 (some .int) [(0, 9, 12, 14), (0, 9, 18, 16)] ∈ BIG := big_at 812 (by decide +kernel) (by decide +kernel)
abbrev rmw_fail : Room := { frames := 9, cells := 2, slots := 12, locals := 155 }
set_option maxRecDepth 100000 in
set_option maxHeartbeats 4000000 in
theorem c_L_fail (l : Launch) (hfl : l.stackTraces = false) (ex : List (Nat × Nat)) (X : XT) (fu : Nat) (p1 : Int32) (p2 : Int32) (p3 : Int32) (M : Mem) (rs : Int32 × Mem) (hf : f_L_fail fu p1 p2 p3 M = some rs) (sz : Nat) : vx_Met l yL_fail (Cond.codeWith yL_fail cL_fail 6 (some .int) [(0, 9, 12, 14), (0, 9, 18, 16)] :: BIG) rmw_fail (va_Pc [.ref (X.2.2 0), .int p1, .int p2, .int p3] (PXN (LW ex) X M sz)) (QI (LW ex) X rs.2 rs.1 sz) (WX (LW ex) X sz) 2 12 (AX (LW ex) X sz) := by
  unfold f_L_fail at hf
  obtain ⟨r, hr9, h2, h1⟩ := wr_e hf
  refine wx_go (M := M) (by decide +kernel) (Nat.le_of_ble_eq_true rfl) ?_
  intro p e s m args below meth c hsz B T N9 hr hlk hxt hw ls hl
  subst hsz
  have hl : lv_has ls 6 [(0, .ref (X.2.2 0)), (1, .int p1), (2, .int p2), (3, .int p3)] := hl
  refine lv_aload_n B.hx B.hb dL_fail_0 rfl (lv_at hl 0 rfl) ?_
  refine lv_iload_n B.hx B.hb dL_fail_1 rfl (lv_at hl 1 rfl) ?_
  refine lv_iload_n B.hx B.hb dL_fail_2 rfl (lv_at hl 2 rfl) ?_
  refine lv_iload_n B.hx B.hb dL_fail_3 rfl (lv_at hl 3 rfl) ?_
  refine w_calli (rs := r) (As := [.int p1, .int p2, .int p3]) (rest := []) B T hw (c_X10_fail l hfl X fu p1 p2 p3 M r hr9 _) cv_L_45 rfl rfl hl.1 rfl rfl ⟨(Nat.le_of_ble_eq_true rfl), (Nat.le_of_ble_eq_true rfl)⟩ (Nat.le_of_ble_eq_true rfl) ⟨(Nat.le_of_ble_eq_true rfl), (Nat.le_of_ble_eq_true rfl)⟩ dL_fail_4 rfl (fun E ce q9 H locs h0 hE hw hce hcv hcl => ?_) (fun h0 H locs hw => ?_)
  · rcases h1 with ⟨h9, -⟩ | ⟨-, hin, h1⟩
    · exact absurd h9 h0
    have hin2 : r.1 = 1 ∨ r.1 = 2 := by simpa using hin
    rcases hin2 with h9 | h9
    · rw [h9] at hE h1
      subst hE
      refine vx_catch (own := RL) (name := exn 1) B.hown (tableOf []) ⟨0, 9, 12, 14⟩ (tableOf [(0, 9, 18, 16)]) hxt (fun _ h9 => nomatch h9) (by decide) (by decide) (B.hts _ bl_1) (w_cast T 1 (by decide) (by decide)) hce hcv hcl ?_
      refine lv_astore (lv' := [(5, .ref q9), (0, .ref (X.2.2 0)), (1, .int p1), (2, .int p2), (3, .int p3)]) B.hx B.hb dL_fail_12 hl (by decide) rfl (fun ls hl => ?_)
      refine lv_sipush (v := (-7100)) B.hx B.hb dL_fail_14 (by decide) ?_
      exact w_xret B hr hlk hw h1 h2 (Nat.le_of_ble_eq_true rfl) (Nat.le_of_ble_eq_true rfl) dL_fail_17
    · rw [h9] at hE h1
      subst hE
      refine vx_catch (own := RL) (name := exn 2) B.hown (tableOf [(0, 9, 12, 14)]) ⟨0, 9, 18, 16⟩ (tableOf []) hxt (List.forall_mem_cons.mpr ⟨w_ps1 B N9 2 (by decide) (by decide) (by decide), (fun _ h9 => nomatch h9)⟩) (by decide) (by decide) (B.hts _ bl_2) (w_cast T 2 (by decide) (by decide)) hce hcv hcl ?_
      refine lv_astore (lv' := [(5, .ref q9), (0, .ref (X.2.2 0)), (1, .int p1), (2, .int p2), (3, .int p3)]) B.hx B.hb dL_fail_18 hl (by decide) rfl (fun ls hl => ?_)
      refine lv_sipush (v := (-7200)) B.hx B.hb dL_fail_20 (by decide) ?_
      exact w_xret B hr hlk hw h1 h2 (Nat.le_of_ble_eq_true rfl) (Nat.le_of_ble_eq_true rfl) dL_fail_23
  · have h1 := h1.elim (fun z => z.2) (fun z => absurd h0 z.1)
    refine lv_istore (lv' := [(4, .int r.2.1), (0, .ref (X.2.2 0)), (1, .int p1), (2, .int p2), (3, .int p3)]) B.hx B.hb dL_fail_7 hl (by decide) rfl (fun ls hl => ?_)
    refine lv_goto (tgt := 24) B.hx B.hb dL_fail_9 (by decide) ?_
    refine lv_iload B.hx B.hb dL_fail_24 (lv_at hl 0 rfl) ?_
    exact w_xret B hr hlk hw h1 h2 (Nat.le_of_ble_eq_true rfl) (Nat.le_of_ble_eq_true rfl) dL_fail_26
theorem km_L_194 : Cond.methodLink RL 194 yL_forbid ∈ BIG := big_at 817 (by decide +kernel) (by decide +kernel)
theorem kt_L_forbid : Cond.static yL_forbid ∈ BIG := big_at 818 (by decide +kernel) (by decide +kernel)
theorem kc_L_forbid : Cond.codeWith yL_forbid cL_forbid 6 (some .int) [(0, 9, 12, 14)] ∈ BIG := big_at 819 (by decide +kernel) (by decide +kernel)
abbrev rmw_forbid : Room := { frames := 9, cells := 2, slots := 12, locals := 156 }
set_option maxRecDepth 100000 in
set_option maxHeartbeats 4000000 in
theorem c_L_forbid (l : Launch) (hfl : l.stackTraces = false) (ex : List (Nat × Nat)) (X : XT) (fu : Nat) (p1 : Int32) (p2 : Int32) (p3 : Int32) (M : Mem) (rs : Int32 × Mem) (hf : f_L_forbid fu p1 p2 p3 M = some rs) (sz : Nat) : vx_Met l yL_forbid (Cond.codeWith yL_forbid cL_forbid 6 (some .int) [(0, 9, 12, 14)] :: BIG) rmw_forbid (va_Pc [.ref (X.2.2 0), .int p1, .int p2, .int p3] (PXN (LW ex) X M sz)) (QI (LW ex) X rs.2 rs.1 sz) (WX (LW ex) X sz) 2 12 (AX (LW ex) X sz) := by
  unfold f_L_forbid at hf
  obtain ⟨r, hr9, h2, h1⟩ := wrz_e hf
  refine wx_go (M := M) (by decide +kernel) (Nat.le_of_ble_eq_true rfl) ?_
  intro p e s m args below meth c hsz B T N9 hr hlk hxt hw ls hl
  subst hsz
  have hl : lv_has ls 6 [(0, .ref (X.2.2 0)), (1, .int p1), (2, .int p2), (3, .int p3)] := hl
  refine lv_aload_n B.hx B.hb dL_forbid_0 rfl (lv_at hl 0 rfl) ?_
  refine lv_iload_n B.hx B.hb dL_forbid_1 rfl (lv_at hl 1 rfl) ?_
  refine lv_iload_n B.hx B.hb dL_forbid_2 rfl (lv_at hl 2 rfl) ?_
  refine lv_iload_n B.hx B.hb dL_forbid_3 rfl (lv_at hl 3 rfl) ?_
  refine w_calli (rs := r) (As := [.int p1, .int p2, .int p3]) (rest := []) B T hw (c_X10_forbid l hfl X fu p1 p2 p3 M r hr9 _) cv_L_49 rfl rfl hl.1 rfl rfl ⟨(Nat.le_of_ble_eq_true rfl), (Nat.le_of_ble_eq_true rfl)⟩ (Nat.le_of_ble_eq_true rfl) ⟨(Nat.le_of_ble_eq_true rfl), (Nat.le_of_ble_eq_true rfl)⟩ dL_forbid_4 rfl (fun E ce q9 H locs h0 hE hw hce hcv hcl => ?_) (fun h0 H locs hw => ?_)
  · rcases h1 with ⟨h9, -⟩ | ⟨-, hin, h1⟩
    · exact absurd h9 h0
    have hin2 : r.1 = 1 := by simpa using hin
    have h9 := hin2
    · rw [h9] at hE h1
      subst hE
      refine vx_catch (own := RL) (name := exn 1) B.hown (tableOf []) ⟨0, 9, 12, 14⟩ (tableOf []) hxt (fun _ h9 => nomatch h9) (by decide) (by decide) (B.hts _ bl_1) (w_cast T 1 (by decide) (by decide)) hce hcv hcl ?_
      refine lv_astore (lv' := [(5, .ref q9), (0, .ref (X.2.2 0)), (1, .int p1), (2, .int p2), (3, .int p3)]) B.hx B.hb dL_forbid_12 hl (by decide) rfl (fun ls hl => ?_)
      refine lv_sipush (v := (-7100)) B.hx B.hb dL_forbid_14 (by decide) ?_
      exact w_xret B hr hlk hw h1 h2 (Nat.le_of_ble_eq_true rfl) (Nat.le_of_ble_eq_true rfl) dL_forbid_17
  · have h1 := h1.elim (fun z => z.2) (fun z => absurd h0 z.1)
    refine lv_istore (lv' := [(4, .int r.2.1), (0, .ref (X.2.2 0)), (1, .int p1), (2, .int p2), (3, .int p3)]) B.hx B.hb dL_forbid_7 hl (by decide) rfl (fun ls hl => ?_)
    refine lv_goto (tgt := 18) B.hx B.hb dL_forbid_9 (by decide) ?_
    refine lv_iload B.hx B.hb dL_forbid_18 (lv_at hl 0 rfl) ?_
    refine lv_if_eq (tgt := 27) B.hx B.hb dL_forbid_20 (by decide) (fun c9 => ?_) (fun c9 => ?_)
    · refine lv_iconst (v := 0) B.hx B.hb dL_forbid_27 (by decide) ?_
      exact w_xret B hr hlk hw (h1.trans (if_pos c9)) h2 (Nat.le_of_ble_eq_true rfl) (Nat.le_of_ble_eq_true rfl) dL_forbid_28
    · refine lv_iconst (v := 1) B.hx B.hb dL_forbid_23 (by decide) ?_
      refine lv_goto (tgt := 28) B.hx B.hb dL_forbid_24 (by decide) ?_
      exact w_xret B hr hlk hw (h1.trans (if_neg c9)) h2 (Nat.le_of_ble_eq_true rfl) (Nat.le_of_ble_eq_true rfl) dL_forbid_28
theorem km_L_196 : Cond.methodLink RL 196 yL_pass ∈ BIG := big_at 824 (by decide +kernel) (by decide +kernel)
theorem kt_L_pass : Cond.static yL_pass ∈ BIG := big_at 825 (by decide +kernel) (by decide +kernel)
theorem kc_L_pass : Cond.codeWith yL_pass cL_pass 4 (some .int) [(0, 6, 9, 16)] ∈ BIG := big_at 826 (by decide +kernel) (by decide +kernel)
abbrev rmw_pass : Room := { frames := 8, cells := 1, slots := 6, locals := 131 }
set_option maxRecDepth 100000 in
set_option maxHeartbeats 4000000 in
theorem c_L_pass (l : Launch) (hfl : l.stackTraces = false) (ex : List (Nat × Nat)) (X : XT) (fu : Nat) (p1 : Int32) (M : Mem) (rs : Int32 × Mem) (hf : f_L_pass fu p1 M = some rs) (sz : Nat) : vx_Met l yL_pass (Cond.codeWith yL_pass cL_pass 4 (some .int) [(0, 6, 9, 16)] :: BIG) rmw_pass (va_Pc [.ref (X.2.2 0), .int p1] (PXN (LW ex) X M sz)) (QI (LW ex) X rs.2 rs.1 sz) (WX (LW ex) X sz) 1 6 (AX (LW ex) X sz) := by
  unfold f_L_pass at hf
  obtain ⟨r, hr9, h2, h1⟩ := wr_e hf
  refine wx_go (M := M) (by decide +kernel) (Nat.le_of_ble_eq_true rfl) ?_
  intro p e s m args below meth c hsz B T N9 hr hlk hxt hw ls hl
  subst hsz
  have hl : lv_has ls 4 [(0, .ref (X.2.2 0)), (1, .int p1)] := hl
  refine lv_aload_n B.hx B.hb dL_pass_0 rfl (lv_at hl 0 rfl) ?_
  refine lv_iload_n B.hx B.hb dL_pass_1 rfl (lv_at hl 1 rfl) ?_
  refine w_calli (rs := r) (As := [.int p1]) (rest := []) B T hw (c_X10_pass l hfl X fu p1 M r hr9 _) cv_L_53 rfl rfl hl.1 rfl rfl ⟨(Nat.le_of_ble_eq_true rfl), (Nat.le_of_ble_eq_true rfl)⟩ (Nat.le_of_ble_eq_true rfl) ⟨(Nat.le_of_ble_eq_true rfl), (Nat.le_of_ble_eq_true rfl)⟩ dL_pass_2 rfl (fun E ce q9 H locs h0 hE hw hce hcv hcl => ?_) (fun h0 H locs hw => ?_)
  · rcases h1 with ⟨h9, -⟩ | ⟨-, hin, h1⟩
    · exact absurd h9 h0
    have hin2 : r.1 = 2 := by simpa using hin
    have h9 := hin2
    · rw [h9] at hE h1
      subst hE
      refine vx_catch (own := RL) (name := exn 2) B.hown (tableOf []) ⟨0, 6, 9, 16⟩ (tableOf []) hxt (fun _ h9 => nomatch h9) (by decide) (by decide) (B.hts _ bl_2) (w_cast T 2 (by decide) (by decide)) hce hcv hcl ?_
      refine lv_astore_n (lv' := [(3, .ref q9), (0, .ref (X.2.2 0)), (1, .int p1)]) B.hx B.hb dL_pass_9 rfl hl (by decide) rfl (fun ls hl => ?_)
      refine lv_sipush (v := (-7200)) B.hx B.hb dL_pass_10 (by decide) ?_
      exact w_xret B hr hlk hw h1 h2 (Nat.le_of_ble_eq_true rfl) (Nat.le_of_ble_eq_true rfl) dL_pass_13
  · have h1 := h1.elim (fun z => z.2) (fun z => absurd h0 z.1)
    refine lv_istore_n (lv' := [(2, .int r.2.1), (0, .ref (X.2.2 0)), (1, .int p1)]) B.hx B.hb dL_pass_5 rfl hl (by decide) rfl (fun ls hl => ?_)
    refine lv_goto (tgt := 14) B.hx B.hb dL_pass_6 (by decide) ?_
    refine lv_iload_n B.hx B.hb dL_pass_14 rfl (lv_at hl 0 rfl) ?_
    exact w_xret B hr hlk hw h1 h2 (Nat.le_of_ble_eq_true rfl) (Nat.le_of_ble_eq_true rfl) dL_pass_15
theorem km_L_198 : Cond.methodLink RL 198 yL_seat ∈ BIG := big_at 839 (by decide +kernel) (by decide +kernel)
theorem kt_L_seat : Cond.static yL_seat ∈ BIG := big_at 840 (by decide +kernel) (by decide +kernel)
theorem kc_L_seat : Cond.codeWith yL_seat cL_seat 4 (some .int) [(0, 6, 9, 14), (0, 6, 14, 18)] ∈ BIG := big_at 841 (by decide +kernel) (by decide +kernel)
abbrev rmw_seat : Room := { frames := 9, cells := 2, slots := 12, locals := 152 }
set_option maxRecDepth 100000 in
set_option maxHeartbeats 4000000 in
theorem c_L_seat (l : Launch) (hfl : l.stackTraces = false) (ex : List (Nat × Nat)) (X : XT) (fu : Nat) (p1 : Int32) (M : Mem) (rs : Int32 × Mem) (hf : f_L_seat fu p1 M = some rs) (sz : Nat) : vx_Met l yL_seat (Cond.codeWith yL_seat cL_seat 4 (some .int) [(0, 6, 9, 14), (0, 6, 14, 18)] :: BIG) rmw_seat (va_Pc [.ref (X.2.2 0), .int p1] (PXN (LW ex) X M sz)) (QI (LW ex) X rs.2 rs.1 sz) (WX (LW ex) X sz) 2 12 (AX (LW ex) X sz) := by
  unfold f_L_seat at hf
  obtain ⟨r, hr9, h2, h1⟩ := wr_e hf
  refine wx_go (M := M) (by decide +kernel) (Nat.le_of_ble_eq_true rfl) ?_
  intro p e s m args below meth c hsz B T N9 hr hlk hxt hw ls hl
  subst hsz
  have hl : lv_has ls 4 [(0, .ref (X.2.2 0)), (1, .int p1)] := hl
  refine lv_aload_n B.hx B.hb dL_seat_0 rfl (lv_at hl 0 rfl) ?_
  refine lv_iload_n B.hx B.hb dL_seat_1 rfl (lv_at hl 1 rfl) ?_
  refine w_calli (rs := r) (As := [.int p1]) (rest := []) B T hw (c_X10_seat l hfl X fu p1 M r hr9 _) cv_L_56 rfl rfl hl.1 rfl rfl ⟨(Nat.le_of_ble_eq_true rfl), (Nat.le_of_ble_eq_true rfl)⟩ (Nat.le_of_ble_eq_true rfl) ⟨(Nat.le_of_ble_eq_true rfl), (Nat.le_of_ble_eq_true rfl)⟩ dL_seat_2 rfl (fun E ce q9 H locs h0 hE hw hce hcv hcl => ?_) (fun h0 H locs hw => ?_)
  · rcases h1 with ⟨h9, -⟩ | ⟨-, hin, h1⟩
    · exact absurd h9 h0
    have hin2 : r.1 = 1 ∨ r.1 = 3 := by simpa using hin
    rcases hin2 with h9 | h9
    · rw [h9] at hE h1
      subst hE
      refine vx_catch (own := RL) (name := exn 1) B.hown (tableOf []) ⟨0, 6, 9, 14⟩ (tableOf [(0, 6, 14, 18)]) hxt (fun _ h9 => nomatch h9) (by decide) (by decide) (B.hts _ bl_1) (w_cast T 1 (by decide) (by decide)) hce hcv hcl ?_
      refine lv_astore_n (lv' := [(3, .ref q9), (0, .ref (X.2.2 0)), (1, .int p1)]) B.hx B.hb dL_seat_9 rfl hl (by decide) rfl (fun ls hl => ?_)
      refine lv_sipush (v := (-7100)) B.hx B.hb dL_seat_10 (by decide) ?_
      exact w_xret B hr hlk hw h1 h2 (Nat.le_of_ble_eq_true rfl) (Nat.le_of_ble_eq_true rfl) dL_seat_13
    · rw [h9] at hE h1
      subst hE
      refine vx_catch (own := RL) (name := exn 3) B.hown (tableOf [(0, 6, 9, 14)]) ⟨0, 6, 14, 18⟩ (tableOf []) hxt (List.forall_mem_cons.mpr ⟨w_ps1 B N9 3 (by decide) (by decide) (by decide), (fun _ h9 => nomatch h9)⟩) (by decide) (by decide) (B.hts _ bl_3) (w_cast T 3 (by decide) (by decide)) hce hcv hcl ?_
      refine lv_astore_n (lv' := [(3, .ref q9), (0, .ref (X.2.2 0)), (1, .int p1)]) B.hx B.hb dL_seat_14 rfl hl (by decide) rfl (fun ls hl => ?_)
      refine lv_sipush (v := (-7300)) B.hx B.hb dL_seat_15 (by decide) ?_
      exact w_xret B hr hlk hw h1 h2 (Nat.le_of_ble_eq_true rfl) (Nat.le_of_ble_eq_true rfl) dL_seat_18
  · have h1 := h1.elim (fun z => z.2) (fun z => absurd h0 z.1)
    refine lv_istore_n (lv' := [(2, .int r.2.1), (0, .ref (X.2.2 0)), (1, .int p1)]) B.hx B.hb dL_seat_5 rfl hl (by decide) rfl (fun ls hl => ?_)
    refine lv_goto (tgt := 19) B.hx B.hb dL_seat_6 (by decide) ?_
    refine lv_iload_n B.hx B.hb dL_seat_19 rfl (lv_at hl 0 rfl) ?_
    exact w_xret B hr hlk hw h1 h2 (Nat.le_of_ble_eq_true rfl) (Nat.le_of_ble_eq_true rfl) dL_seat_20
theorem km_L_200 : Cond.methodLink RL 200 yL_link ∈ BIG := big_at 850 (by decide +kernel) (by decide +kernel)
theorem kt_L_link : Cond.static yL_link ∈ BIG := big_at 851 (by decide +kernel) (by decide +kernel)
theorem kc_L_link : Cond.codeWith yL_link cL_link 7 (some .int) [(0, 11, 14, 14), (0, 11, 20, 16), (0, 11, 26, 18)] ∈ BIG := big_at 852 (by decide +kernel) (by decide +kernel)
abbrev rmw_link : Room := { frames := 8, cells := 3, slots := 18, locals := 134 }
set_option maxRecDepth 100000 in
set_option maxHeartbeats 4000000 in
theorem c_L_link (l : Launch) (hfl : l.stackTraces = false) (ex : List (Nat × Nat)) (X : XT) (fu : Nat) (p1 : Int32) (p2 : Int32) (p3 : Int32) (p4 : Int32) (M : Mem) (rs : Int32 × Mem) (hf : f_L_link fu p1 p2 p3 p4 M = some rs) (sz : Nat) : vx_Met l yL_link (Cond.codeWith yL_link cL_link 7 (some .int) [(0, 11, 14, 14), (0, 11, 20, 16), (0, 11, 26, 18)] :: BIG) rmw_link (va_Pc [.ref (X.2.2 0), .int p1, .int p2, .int p3, .int p4] (PXN (LW ex) X M sz)) (QI (LW ex) X rs.2 rs.1 sz) (WX (LW ex) X sz) 3 18 (AX (LW ex) X sz) := by
  unfold f_L_link at hf
  obtain ⟨r, hr9, h2, h1⟩ := wr_e hf
  refine wx_go (M := M) (by decide +kernel) (Nat.le_of_ble_eq_true rfl) ?_
  intro p e s m args below meth c hsz B T N9 hr hlk hxt hw ls hl
  subst hsz
  have hl : lv_has ls 7 [(0, .ref (X.2.2 0)), (1, .int p1), (2, .int p2), (3, .int p3), (4, .int p4)] := hl
  refine lv_aload_n B.hx B.hb dL_link_0 rfl (lv_at hl 0 rfl) ?_
  refine lv_iload_n B.hx B.hb dL_link_1 rfl (lv_at hl 1 rfl) ?_
  refine lv_iload_n B.hx B.hb dL_link_2 rfl (lv_at hl 2 rfl) ?_
  refine lv_iload_n B.hx B.hb dL_link_3 rfl (lv_at hl 3 rfl) ?_
  refine lv_iload B.hx B.hb dL_link_4 (lv_at hl 4 rfl) ?_
  refine w_calli (rs := r) (As := [.int p1, .int p2, .int p3, .int p4]) (rest := []) B T hw (c_X10_link l hfl X fu p1 p2 p3 p4 M r hr9 _) cv_L_59 rfl rfl hl.1 rfl rfl ⟨(Nat.le_of_ble_eq_true rfl), (Nat.le_of_ble_eq_true rfl)⟩ (Nat.le_of_ble_eq_true rfl) ⟨(Nat.le_of_ble_eq_true rfl), (Nat.le_of_ble_eq_true rfl)⟩ dL_link_6 rfl (fun E ce q9 H locs h0 hE hw hce hcv hcl => ?_) (fun h0 H locs hw => ?_)
  · rcases h1 with ⟨h9, -⟩ | ⟨-, hin, h1⟩
    · exact absurd h9 h0
    have hin2 : r.1 = 1 ∨ r.1 = 2 ∨ r.1 = 3 := by simpa using hin
    rcases hin2 with h9 | h9 | h9
    · rw [h9] at hE h1
      subst hE
      refine vx_catch (own := RL) (name := exn 1) B.hown (tableOf []) ⟨0, 11, 14, 14⟩ (tableOf [(0, 11, 20, 16), (0, 11, 26, 18)]) hxt (fun _ h9 => nomatch h9) (by decide) (by decide) (B.hts _ bl_1) (w_cast T 1 (by decide) (by decide)) hce hcv hcl ?_
      refine lv_astore (lv' := [(6, .ref q9), (0, .ref (X.2.2 0)), (1, .int p1), (2, .int p2), (3, .int p3), (4, .int p4)]) B.hx B.hb dL_link_14 hl (by decide) rfl (fun ls hl => ?_)
      refine lv_sipush (v := (-7100)) B.hx B.hb dL_link_16 (by decide) ?_
      exact w_xret B hr hlk hw h1 h2 (Nat.le_of_ble_eq_true rfl) (Nat.le_of_ble_eq_true rfl) dL_link_19
    · rw [h9] at hE h1
      subst hE
      refine vx_catch (own := RL) (name := exn 2) B.hown (tableOf [(0, 11, 14, 14)]) ⟨0, 11, 20, 16⟩ (tableOf [(0, 11, 26, 18)]) hxt (List.forall_mem_cons.mpr ⟨w_ps1 B N9 2 (by decide) (by decide) (by decide), (fun _ h9 => nomatch h9)⟩) (by decide) (by decide) (B.hts _ bl_2) (w_cast T 2 (by decide) (by decide)) hce hcv hcl ?_
      refine lv_astore (lv' := [(6, .ref q9), (0, .ref (X.2.2 0)), (1, .int p1), (2, .int p2), (3, .int p3), (4, .int p4)]) B.hx B.hb dL_link_20 hl (by decide) rfl (fun ls hl => ?_)
      refine lv_sipush (v := (-7200)) B.hx B.hb dL_link_22 (by decide) ?_
      exact w_xret B hr hlk hw h1 h2 (Nat.le_of_ble_eq_true rfl) (Nat.le_of_ble_eq_true rfl) dL_link_25
    · rw [h9] at hE h1
      subst hE
      refine vx_catch (own := RL) (name := exn 3) B.hown (tableOf [(0, 11, 14, 14), (0, 11, 20, 16)]) ⟨0, 11, 26, 18⟩ (tableOf []) hxt (List.forall_mem_cons.mpr ⟨w_ps1 B N9 3 (by decide) (by decide) (by decide), (List.forall_mem_cons.mpr ⟨w_ps2 B N9 3 (by decide) (by decide) (by decide), (fun _ h9 => nomatch h9)⟩)⟩) (by decide) (by decide) (B.hts _ bl_3) (w_cast T 3 (by decide) (by decide)) hce hcv hcl ?_
      refine lv_astore (lv' := [(6, .ref q9), (0, .ref (X.2.2 0)), (1, .int p1), (2, .int p2), (3, .int p3), (4, .int p4)]) B.hx B.hb dL_link_26 hl (by decide) rfl (fun ls hl => ?_)
      refine lv_sipush (v := (-7300)) B.hx B.hb dL_link_28 (by decide) ?_
      exact w_xret B hr hlk hw h1 h2 (Nat.le_of_ble_eq_true rfl) (Nat.le_of_ble_eq_true rfl) dL_link_31
  · have h1 := h1.elim (fun z => z.2) (fun z => absurd h0 z.1)
    refine lv_istore (lv' := [(5, .int r.2.1), (0, .ref (X.2.2 0)), (1, .int p1), (2, .int p2), (3, .int p3), (4, .int p4)]) B.hx B.hb dL_link_9 hl (by decide) rfl (fun ls hl => ?_)
    refine lv_goto (tgt := 32) B.hx B.hb dL_link_11 (by decide) ?_
    refine lv_iload B.hx B.hb dL_link_32 (lv_at hl 0 rfl) ?_
    exact w_xret B hr hlk hw h1 h2 (Nat.le_of_ble_eq_true rfl) (Nat.le_of_ble_eq_true rfl) dL_link_34
theorem km_L_202 : Cond.methodLink RL 202 yL_where ∈ BIG := big_at 867 (by decide +kernel) (by decide +kernel)
theorem kt_L_where : Cond.static yL_where ∈ BIG := big_at 868 (by decide +kernel) (by decide +kernel)
theorem kc_L_where : Cond.codeWith yL_where cL_where 7 (some .int) [(0, 11, 14, 14), (0, 11, 20, 16), (0, 11, 26, 18)] ∈ BIG := big_at 869 (by decide +kernel) (by decide +kernel)
abbrev rmw_where : Room := { frames := 8, cells := 3, slots := 18, locals := 134 }
set_option maxRecDepth 100000 in
set_option maxHeartbeats 4000000 in
theorem c_L_where (l : Launch) (hfl : l.stackTraces = false) (ex : List (Nat × Nat)) (X : XT) (fu : Nat) (p1 : Int32) (p2 : Int32) (p3 : Int32) (p4 : Int32) (M : Mem) (rs : Int32 × Mem) (hf : f_L_where fu p1 p2 p3 p4 M = some rs) (sz : Nat) : vx_Met l yL_where (Cond.codeWith yL_where cL_where 7 (some .int) [(0, 11, 14, 14), (0, 11, 20, 16), (0, 11, 26, 18)] :: BIG) rmw_where (va_Pc [.ref (X.2.2 0), .int p1, .int p2, .int p3, .int p4] (PXN (LW ex) X M sz)) (QI (LW ex) X rs.2 rs.1 sz) (WX (LW ex) X sz) 3 18 (AX (LW ex) X sz) := by
  unfold f_L_where at hf
  obtain ⟨r, hr9, h2, h1⟩ := wr_e hf
  refine wx_go (M := M) (by decide +kernel) (Nat.le_of_ble_eq_true rfl) ?_
  intro p e s m args below meth c hsz B T N9 hr hlk hxt hw ls hl
  subst hsz
  have hl : lv_has ls 7 [(0, .ref (X.2.2 0)), (1, .int p1), (2, .int p2), (3, .int p3), (4, .int p4)] := hl
  refine lv_aload_n B.hx B.hb dL_where_0 rfl (lv_at hl 0 rfl) ?_
  refine lv_iload_n B.hx B.hb dL_where_1 rfl (lv_at hl 1 rfl) ?_
  refine lv_iload_n B.hx B.hb dL_where_2 rfl (lv_at hl 2 rfl) ?_
  refine lv_iload_n B.hx B.hb dL_where_3 rfl (lv_at hl 3 rfl) ?_
  refine lv_iload B.hx B.hb dL_where_4 (lv_at hl 4 rfl) ?_
  refine w_calli (rs := r) (As := [.int p1, .int p2, .int p3, .int p4]) (rest := []) B T hw (c_X10_where l hfl X fu p1 p2 p3 p4 M r hr9 _) cv_L_62 rfl rfl hl.1 rfl rfl ⟨(Nat.le_of_ble_eq_true rfl), (Nat.le_of_ble_eq_true rfl)⟩ (Nat.le_of_ble_eq_true rfl) ⟨(Nat.le_of_ble_eq_true rfl), (Nat.le_of_ble_eq_true rfl)⟩ dL_where_6 rfl (fun E ce q9 H locs h0 hE hw hce hcv hcl => ?_) (fun h0 H locs hw => ?_)
  · rcases h1 with ⟨h9, -⟩ | ⟨-, hin, h1⟩
    · exact absurd h9 h0
    have hin2 : r.1 = 1 ∨ r.1 = 2 ∨ r.1 = 3 := by simpa using hin
    rcases hin2 with h9 | h9 | h9
    · rw [h9] at hE h1
      subst hE
      refine vx_catch (own := RL) (name := exn 1) B.hown (tableOf []) ⟨0, 11, 14, 14⟩ (tableOf [(0, 11, 20, 16), (0, 11, 26, 18)]) hxt (fun _ h9 => nomatch h9) (by decide) (by decide) (B.hts _ bl_1) (w_cast T 1 (by decide) (by decide)) hce hcv hcl ?_
      refine lv_astore (lv' := [(6, .ref q9), (0, .ref (X.2.2 0)), (1, .int p1), (2, .int p2), (3, .int p3), (4, .int p4)]) B.hx B.hb dL_where_14 hl (by decide) rfl (fun ls hl => ?_)
      refine lv_sipush (v := (-7100)) B.hx B.hb dL_where_16 (by decide) ?_
      exact w_xret B hr hlk hw h1 h2 (Nat.le_of_ble_eq_true rfl) (Nat.le_of_ble_eq_true rfl) dL_where_19
    · rw [h9] at hE h1
      subst hE
      refine vx_catch (own := RL) (name := exn 2) B.hown (tableOf [(0, 11, 14, 14)]) ⟨0, 11, 20, 16⟩ (tableOf [(0, 11, 26, 18)]) hxt (List.forall_mem_cons.mpr ⟨w_ps1 B N9 2 (by decide) (by decide) (by decide), (fun _ h9 => nomatch h9)⟩) (by decide) (by decide) (B.hts _ bl_2) (w_cast T 2 (by decide) (by decide)) hce hcv hcl ?_
      refine lv_astore (lv' := [(6, .ref q9), (0, .ref (X.2.2 0)), (1, .int p1), (2, .int p2), (3, .int p3), (4, .int p4)]) B.hx B.hb dL_where_20 hl (by decide) rfl (fun ls hl => ?_)
      refine lv_sipush (v := (-7200)) B.hx B.hb dL_where_22 (by decide) ?_
      exact w_xret B hr hlk hw h1 h2 (Nat.le_of_ble_eq_true rfl) (Nat.le_of_ble_eq_true rfl) dL_where_25
    · rw [h9] at hE h1
      subst hE
      refine vx_catch (own := RL) (name := exn 3) B.hown (tableOf [(0, 11, 14, 14), (0, 11, 20, 16)]) ⟨0, 11, 26, 18⟩ (tableOf []) hxt (List.forall_mem_cons.mpr ⟨w_ps1 B N9 3 (by decide) (by decide) (by decide), (List.forall_mem_cons.mpr ⟨w_ps2 B N9 3 (by decide) (by decide) (by decide), (fun _ h9 => nomatch h9)⟩)⟩) (by decide) (by decide) (B.hts _ bl_3) (w_cast T 3 (by decide) (by decide)) hce hcv hcl ?_
      refine lv_astore (lv' := [(6, .ref q9), (0, .ref (X.2.2 0)), (1, .int p1), (2, .int p2), (3, .int p3), (4, .int p4)]) B.hx B.hb dL_where_26 hl (by decide) rfl (fun ls hl => ?_)
      refine lv_sipush (v := (-7300)) B.hx B.hb dL_where_28 (by decide) ?_
      exact w_xret B hr hlk hw h1 h2 (Nat.le_of_ble_eq_true rfl) (Nat.le_of_ble_eq_true rfl) dL_where_31
  · have h1 := h1.elim (fun z => z.2) (fun z => absurd h0 z.1)
    refine lv_istore (lv' := [(5, .int r.2.1), (0, .ref (X.2.2 0)), (1, .int p1), (2, .int p2), (3, .int p3), (4, .int p4)]) B.hx B.hb dL_where_9 hl (by decide) rfl (fun ls hl => ?_)
    refine lv_goto (tgt := 32) B.hx B.hb dL_where_11 (by decide) ?_
    refine lv_iload B.hx B.hb dL_where_32 (lv_at hl 0 rfl) ?_
    exact w_xret B hr hlk hw h1 h2 (Nat.le_of_ble_eq_true rfl) (Nat.le_of_ble_eq_true rfl) dL_where_34
theorem km_L_204 : Cond.methodLink RL 204 yL_out ∈ BIG := big_at 881 (by decide +kernel) (by decide +kernel)
theorem kt_L_out : Cond.static yL_out ∈ BIG := big_at 882 (by decide +kernel) (by decide +kernel)
theorem kc_L_out : Cond.codeWith yL_out cL_out 5 (some .int) [(0, 7, 10, 14), (0, 7, 16, 18)] ∈ BIG := big_at 883 (by decide +kernel) (by decide +kernel)
abbrev rmw_out : Room := { frames := 8, cells := 2, slots := 12, locals := 132 }
set_option maxRecDepth 100000 in
set_option maxHeartbeats 4000000 in
theorem c_L_out (l : Launch) (hfl : l.stackTraces = false) (ex : List (Nat × Nat)) (X : XT) (fu : Nat) (p1 : Int32) (p2 : Int32) (M : Mem) (rs : Int32 × Mem) (hf : f_L_out fu p1 p2 M = some rs) (sz : Nat) : vx_Met l yL_out (Cond.codeWith yL_out cL_out 5 (some .int) [(0, 7, 10, 14), (0, 7, 16, 18)] :: BIG) rmw_out (va_Pc [.ref (X.2.2 0), .int p1, .int p2] (PXN (LW ex) X M sz)) (QI (LW ex) X rs.2 rs.1 sz) (WX (LW ex) X sz) 2 12 (AX (LW ex) X sz) := by
  unfold f_L_out at hf
  obtain ⟨r, hr9, h2, h1⟩ := wr_e hf
  refine wx_go (M := M) (by decide +kernel) (Nat.le_of_ble_eq_true rfl) ?_
  intro p e s m args below meth c hsz B T N9 hr hlk hxt hw ls hl
  subst hsz
  have hl : lv_has ls 5 [(0, .ref (X.2.2 0)), (1, .int p1), (2, .int p2)] := hl
  refine lv_aload_n B.hx B.hb dL_out_0 rfl (lv_at hl 0 rfl) ?_
  refine lv_iload_n B.hx B.hb dL_out_1 rfl (lv_at hl 1 rfl) ?_
  refine lv_iload_n B.hx B.hb dL_out_2 rfl (lv_at hl 2 rfl) ?_
  refine w_calli (rs := r) (As := [.int p1, .int p2]) (rest := []) B T hw (c_X10_out l hfl X fu p1 p2 M r hr9 _) cv_L_65 rfl rfl hl.1 rfl rfl ⟨(Nat.le_of_ble_eq_true rfl), (Nat.le_of_ble_eq_true rfl)⟩ (Nat.le_of_ble_eq_true rfl) ⟨(Nat.le_of_ble_eq_true rfl), (Nat.le_of_ble_eq_true rfl)⟩ dL_out_3 rfl (fun E ce q9 H locs h0 hE hw hce hcv hcl => ?_) (fun h0 H locs hw => ?_)
  · rcases h1 with ⟨h9, -⟩ | ⟨-, hin, h1⟩
    · exact absurd h9 h0
    have hin2 : r.1 = 1 ∨ r.1 = 3 := by simpa using hin
    rcases hin2 with h9 | h9
    · rw [h9] at hE h1
      subst hE
      refine vx_catch (own := RL) (name := exn 1) B.hown (tableOf []) ⟨0, 7, 10, 14⟩ (tableOf [(0, 7, 16, 18)]) hxt (fun _ h9 => nomatch h9) (by decide) (by decide) (B.hts _ bl_1) (w_cast T 1 (by decide) (by decide)) hce hcv hcl ?_
      refine lv_astore (lv' := [(4, .ref q9), (0, .ref (X.2.2 0)), (1, .int p1), (2, .int p2)]) B.hx B.hb dL_out_10 hl (by decide) rfl (fun ls hl => ?_)
      refine lv_sipush (v := (-7100)) B.hx B.hb dL_out_12 (by decide) ?_
      exact w_xret B hr hlk hw h1 h2 (Nat.le_of_ble_eq_true rfl) (Nat.le_of_ble_eq_true rfl) dL_out_15
    · rw [h9] at hE h1
      subst hE
      refine vx_catch (own := RL) (name := exn 3) B.hown (tableOf [(0, 7, 10, 14)]) ⟨0, 7, 16, 18⟩ (tableOf []) hxt (List.forall_mem_cons.mpr ⟨w_ps1 B N9 3 (by decide) (by decide) (by decide), (fun _ h9 => nomatch h9)⟩) (by decide) (by decide) (B.hts _ bl_3) (w_cast T 3 (by decide) (by decide)) hce hcv hcl ?_
      refine lv_astore (lv' := [(4, .ref q9), (0, .ref (X.2.2 0)), (1, .int p1), (2, .int p2)]) B.hx B.hb dL_out_16 hl (by decide) rfl (fun ls hl => ?_)
      refine lv_sipush (v := (-7300)) B.hx B.hb dL_out_18 (by decide) ?_
      exact w_xret B hr hlk hw h1 h2 (Nat.le_of_ble_eq_true rfl) (Nat.le_of_ble_eq_true rfl) dL_out_21
  · have h1 := h1.elim (fun z => z.2) (fun z => absurd h0 z.1)
    refine lv_istore_n (lv' := [(3, .int r.2.1), (0, .ref (X.2.2 0)), (1, .int p1), (2, .int p2)]) B.hx B.hb dL_out_6 rfl hl (by decide) rfl (fun ls hl => ?_)
    refine lv_goto (tgt := 22) B.hx B.hb dL_out_7 (by decide) ?_
    refine lv_iload_n B.hx B.hb dL_out_22 rfl (lv_at hl 0 rfl) ?_
    exact w_xret B hr hlk hw h1 h2 (Nat.le_of_ble_eq_true rfl) (Nat.le_of_ble_eq_true rfl) dL_out_23
theorem km_L_206 : Cond.methodLink RL 206 yL_shape ∈ BIG := big_at 561 (by decide +kernel) (by decide +kernel)
theorem kt_L_shape : Cond.static yL_shape ∈ BIG := big_at 562 (by decide +kernel) (by decide +kernel)
theorem kc_L_shape : Cond.codeWith yL_shape cL_shape 4 (some .int) [(0, 6, 9, 16)] ∈ BIG := big_at 563 (by decide +kernel) (by decide +kernel)
abbrev rmw_shape : Room := { frames := 8, cells := 1, slots := 6, locals := 132 }
set_option maxRecDepth 100000 in
set_option maxHeartbeats 4000000 in
theorem c_L_shape (l : Launch) (hfl : l.stackTraces = false) (ex : List (Nat × Nat)) (X : XT) (fu : Nat) (p1 : Int32) (p2 : Int32) (M : Mem) (rs : Int32 × Mem) (hf : f_L_shape fu p1 p2 M = some rs) (sz : Nat) : vx_Met l yL_shape (Cond.codeWith yL_shape cL_shape 4 (some .int) [(0, 6, 9, 16)] :: BIG) rmw_shape (va_Pc [.ref (X.2.2 0), .int p1, .int p2] (PXN (LW ex) X M sz)) (QI (LW ex) X rs.2 rs.1 sz) (WX (LW ex) X sz) 1 6 (AX (LW ex) X sz) := by
  unfold f_L_shape at hf
  obtain ⟨r, hr9, h2, h1⟩ := wr_e hf
  refine wx_go (M := M) (by decide +kernel) (Nat.le_of_ble_eq_true rfl) ?_
  intro p e s m args below meth c hsz B T N9 hr hlk hxt hw ls hl
  subst hsz
  have hl : lv_has ls 4 [(0, .ref (X.2.2 0)), (1, .int p1), (2, .int p2)] := hl
  refine lv_aload_n B.hx B.hb dL_shape_0 rfl (lv_at hl 0 rfl) ?_
  refine lv_iload_n B.hx B.hb dL_shape_1 rfl (lv_at hl 1 rfl) ?_
  refine lv_iload_n B.hx B.hb dL_shape_2 rfl (lv_at hl 2 rfl) ?_
  refine w_callv (rs := r) (As := [.int p1, .int p2]) (rest := []) B T hw (c_X10_shape l hfl X fu p1 p2 M r hr9 _) cv_L_68 rfl rfl hl.1 rfl rfl ⟨(Nat.le_of_ble_eq_true rfl), (Nat.le_of_ble_eq_true rfl)⟩ (Nat.le_of_ble_eq_true rfl) ⟨(Nat.le_of_ble_eq_true rfl), (Nat.le_of_ble_eq_true rfl)⟩ dL_shape_3 rfl (fun E ce q9 H locs h0 hE hw hce hcv hcl => ?_) (fun h0 H locs hw => ?_)
  · rcases h1 with ⟨h9, -⟩ | ⟨-, hin, h1⟩
    · exact absurd h9 h0
    have hin2 : r.1 = 2 := by simpa using hin
    have h9 := hin2
    · rw [h9] at hE h1
      subst hE
      refine vx_catch (own := RL) (name := exn 2) B.hown (tableOf []) ⟨0, 6, 9, 16⟩ (tableOf []) hxt (fun _ h9 => nomatch h9) (by decide) (by decide) (B.hts _ bl_2) (w_cast T 2 (by decide) (by decide)) hce hcv hcl ?_
      refine lv_astore_n (lv' := [(3, .ref q9), (0, .ref (X.2.2 0)), (1, .int p1), (2, .int p2)]) B.hx B.hb dL_shape_9 rfl hl (by decide) rfl (fun ls hl => ?_)
      refine lv_sipush (v := (-7200)) B.hx B.hb dL_shape_10 (by decide) ?_
      exact w_xret B hr hlk hw h1 h2 (Nat.le_of_ble_eq_true rfl) (Nat.le_of_ble_eq_true rfl) dL_shape_13
  · have h1 := h1.elim (fun z => z.2) (fun z => absurd h0 z.1)
    refine lv_goto (tgt := 14) B.hx B.hb dL_shape_6 (by decide) ?_
    refine lv_iconst (v := 0) B.hx B.hb dL_shape_14 (by decide) ?_
    exact w_xret B hr hlk hw (h1.trans (xv_X10_shape h0 hr9)) h2 (Nat.le_of_ble_eq_true rfl) (Nat.le_of_ble_eq_true rfl) dL_shape_15
theorem km_L_291 : Cond.methodLink RL 291 yL_ask ∈ BIG := big_at 903 (by decide +kernel) (by decide +kernel)
theorem kt_L_ask : Cond.static yL_ask ∈ BIG := big_at 904 (by decide +kernel) (by decide +kernel)
theorem kc_L_ask : Cond.codeWith yL_ask cL_ask 5 (some .int) [(0, 7, 10, 16), (0, 7, 16, 18)] ∈ BIG := big_at 905 (by decide +kernel) (by decide +kernel)
abbrev rmw_ask : Room := { frames := 8, cells := 2, slots := 12, locals := 173 }
set_option maxRecDepth 100000 in
set_option maxHeartbeats 4000000 in
theorem c_L_ask (l : Launch) (hfl : l.stackTraces = false) (ex : List (Nat × Nat)) (X : XT) (fu : Nat) (p1 : Int32) (p2 : Int32) (M : Mem) (rs : Int32 × Mem) (hf : f_L_ask fu p1 p2 M = some rs) (sz : Nat) : vx_Met l yL_ask (Cond.codeWith yL_ask cL_ask 5 (some .int) [(0, 7, 10, 16), (0, 7, 16, 18)] :: BIG) rmw_ask (va_Pc [.ref (X.2.2 0), .int p1, .int p2] (PXN (LW ex) X M sz)) (QI (LW ex) X rs.2 rs.1 sz) (WX (LW ex) X sz) 2 12 (AX (LW ex) X sz) := by
  unfold f_L_ask at hf
  obtain ⟨r, hr9, h2, h1⟩ := wr_e hf
  refine wx_go (M := M) (by decide +kernel) (Nat.le_of_ble_eq_true rfl) ?_
  intro p e s m args below meth c hsz B T N9 hr hlk hxt hw ls hl
  subst hsz
  have hl : lv_has ls 5 [(0, .ref (X.2.2 0)), (1, .int p1), (2, .int p2)] := hl
  refine lv_aload_n B.hx B.hb dL_ask_0 rfl (lv_at hl 0 rfl) ?_
  refine lv_iload_n B.hx B.hb dL_ask_1 rfl (lv_at hl 1 rfl) ?_
  refine lv_iload_n B.hx B.hb dL_ask_2 rfl (lv_at hl 2 rfl) ?_
  refine w_calli (rs := r) (As := [.int p1, .int p2]) (rest := []) B T hw (c_X10_ask l hfl X fu p1 p2 M r hr9 _) cv_L_72 rfl rfl hl.1 rfl rfl ⟨(Nat.le_of_ble_eq_true rfl), (Nat.le_of_ble_eq_true rfl)⟩ (Nat.le_of_ble_eq_true rfl) ⟨(Nat.le_of_ble_eq_true rfl), (Nat.le_of_ble_eq_true rfl)⟩ dL_ask_3 rfl (fun E ce q9 H locs h0 hE hw hce hcv hcl => ?_) (fun h0 H locs hw => ?_)
  · rcases h1 with ⟨h9, -⟩ | ⟨-, hin, h1⟩
    · exact absurd h9 h0
    have hin2 : r.1 = 2 ∨ r.1 = 3 := by simpa using hin
    rcases hin2 with h9 | h9
    · rw [h9] at hE h1
      subst hE
      refine vx_catch (own := RL) (name := exn 2) B.hown (tableOf []) ⟨0, 7, 10, 16⟩ (tableOf [(0, 7, 16, 18)]) hxt (fun _ h9 => nomatch h9) (by decide) (by decide) (B.hts _ bl_2) (w_cast T 2 (by decide) (by decide)) hce hcv hcl ?_
      refine lv_astore (lv' := [(4, .ref q9), (0, .ref (X.2.2 0)), (1, .int p1), (2, .int p2)]) B.hx B.hb dL_ask_10 hl (by decide) rfl (fun ls hl => ?_)
      refine lv_sipush (v := (-7200)) B.hx B.hb dL_ask_12 (by decide) ?_
      exact w_xret B hr hlk hw h1 h2 (Nat.le_of_ble_eq_true rfl) (Nat.le_of_ble_eq_true rfl) dL_ask_15
    · rw [h9] at hE h1
      subst hE
      refine vx_catch (own := RL) (name := exn 3) B.hown (tableOf [(0, 7, 10, 16)]) ⟨0, 7, 16, 18⟩ (tableOf []) hxt (List.forall_mem_cons.mpr ⟨w_ps2 B N9 3 (by decide) (by decide) (by decide), (fun _ h9 => nomatch h9)⟩) (by decide) (by decide) (B.hts _ bl_3) (w_cast T 3 (by decide) (by decide)) hce hcv hcl ?_
      refine lv_astore (lv' := [(4, .ref q9), (0, .ref (X.2.2 0)), (1, .int p1), (2, .int p2)]) B.hx B.hb dL_ask_16 hl (by decide) rfl (fun ls hl => ?_)
      refine lv_sipush (v := (-7300)) B.hx B.hb dL_ask_18 (by decide) ?_
      exact w_xret B hr hlk hw h1 h2 (Nat.le_of_ble_eq_true rfl) (Nat.le_of_ble_eq_true rfl) dL_ask_21
  · have h1 := h1.elim (fun z => z.2) (fun z => absurd h0 z.1)
    refine lv_istore_n (lv' := [(3, .int r.2.1), (0, .ref (X.2.2 0)), (1, .int p1), (2, .int p2)]) B.hx B.hb dL_ask_6 rfl hl (by decide) rfl (fun ls hl => ?_)
    refine lv_goto (tgt := 22) B.hx B.hb dL_ask_7 (by decide) ?_
    refine lv_iload_n B.hx B.hb dL_ask_22 rfl (lv_at hl 0 rfl) ?_
    exact w_xret B hr hlk hw h1 h2 (Nat.le_of_ble_eq_true rfl) (Nat.le_of_ble_eq_true rfl) dL_ask_23
theorem km_L_323 : Cond.methodLink RL 323 yL_answer ∈ BIG := big_at 1328 (by decide +kernel) (by decide +kernel)
theorem kt_L_answer : Cond.static yL_answer ∈ BIG := big_at 1329 (by decide +kernel) (by decide +kernel)
theorem kc_L_answer : Cond.codeWith yL_answer cL_answer 5 (some .int) [(0, 7, 10, 14)] ∈ BIG := big_at 1330 (by decide +kernel) (by decide +kernel)
abbrev rmw_answer : Room := { frames := 8, cells := 1, slots := 6, locals := 132 }
set_option maxRecDepth 100000 in
set_option maxHeartbeats 4000000 in
theorem c_L_answer (l : Launch) (hfl : l.stackTraces = false) (ex : List (Nat × Nat)) (X : XT) (fu : Nat) (p1 : Int32) (p2 : Int32) (M : Mem) (rs : Int32 × Mem) (hf : f_L_answer fu p1 p2 M = some rs) (sz : Nat) : vx_Met l yL_answer (Cond.codeWith yL_answer cL_answer 5 (some .int) [(0, 7, 10, 14)] :: BIG) rmw_answer (va_Pc [.ref (X.2.2 0), .int p1, .int p2] (PXN (LW ex) X M sz)) (QI (LW ex) X rs.2 rs.1 sz) (WX (LW ex) X sz) 1 6 (AX (LW ex) X sz) := by
  unfold f_L_answer at hf
  obtain ⟨r, hr9, h2, h1⟩ := wr_e hf
  refine wx_go (M := M) (by decide +kernel) (Nat.le_of_ble_eq_true rfl) ?_
  intro p e s m args below meth c hsz B T N9 hr hlk hxt hw ls hl
  subst hsz
  have hl : lv_has ls 5 [(0, .ref (X.2.2 0)), (1, .int p1), (2, .int p2)] := hl
  refine lv_aload_n B.hx B.hb dL_answer_0 rfl (lv_at hl 0 rfl) ?_
  refine lv_iload_n B.hx B.hb dL_answer_1 rfl (lv_at hl 1 rfl) ?_
  refine lv_iload_n B.hx B.hb dL_answer_2 rfl (lv_at hl 2 rfl) ?_
  refine w_calli (rs := r) (As := [.int p1, .int p2]) (rest := []) B T hw (c_X10_answer l hfl X fu p1 p2 M r hr9 _) cv_L_75 rfl rfl hl.1 rfl rfl ⟨(Nat.le_of_ble_eq_true rfl), (Nat.le_of_ble_eq_true rfl)⟩ (Nat.le_of_ble_eq_true rfl) ⟨(Nat.le_of_ble_eq_true rfl), (Nat.le_of_ble_eq_true rfl)⟩ dL_answer_3 rfl (fun E ce q9 H locs h0 hE hw hce hcv hcl => ?_) (fun h0 H locs hw => ?_)
  · rcases h1 with ⟨h9, -⟩ | ⟨-, hin, h1⟩
    · exact absurd h9 h0
    have hin2 : r.1 = 1 := by simpa using hin
    have h9 := hin2
    · rw [h9] at hE h1
      subst hE
      refine vx_catch (own := RL) (name := exn 1) B.hown (tableOf []) ⟨0, 7, 10, 14⟩ (tableOf []) hxt (fun _ h9 => nomatch h9) (by decide) (by decide) (B.hts _ bl_1) (w_cast T 1 (by decide) (by decide)) hce hcv hcl ?_
      refine lv_astore (lv' := [(4, .ref q9), (0, .ref (X.2.2 0)), (1, .int p1), (2, .int p2)]) B.hx B.hb dL_answer_10 hl (by decide) rfl (fun ls hl => ?_)
      refine lv_sipush (v := (-7100)) B.hx B.hb dL_answer_12 (by decide) ?_
      exact w_xret B hr hlk hw h1 h2 (Nat.le_of_ble_eq_true rfl) (Nat.le_of_ble_eq_true rfl) dL_answer_15
  · have h1 := h1.elim (fun z => z.2) (fun z => absurd h0 z.1)
    refine lv_istore_n (lv' := [(3, .int r.2.1), (0, .ref (X.2.2 0)), (1, .int p1), (2, .int p2)]) B.hx B.hb dL_answer_6 rfl hl (by decide) rfl (fun ls hl => ?_)
    refine lv_goto (tgt := 16) B.hx B.hb dL_answer_7 (by decide) ?_
    refine lv_iload_n B.hx B.hb dL_answer_16 rfl (lv_at hl 0 rfl) ?_
    exact w_xret B hr hlk hw h1 h2 (Nat.le_of_ble_eq_true rfl) (Nat.le_of_ble_eq_true rfl) dL_answer_17
theorem km_L_307 : Cond.methodLink RL 307 yL_taken ∈ BIG := big_at 1225 (by decide +kernel) (by decide +kernel)
theorem kt_L_taken : Cond.static yL_taken ∈ BIG := big_at 1226 (by decide +kernel) (by decide +kernel)
theorem kc_L_taken : Cond.codeWith yL_taken cL_taken 4 (some .int) [(0, 6, 9, 14)] ∈ BIG := big_at 1227 (by decide +kernel) (by decide +kernel)
abbrev rmw_taken : Room := { frames := 9, cells := 1, slots := 6, locals := 152 }
set_option maxRecDepth 100000 in
set_option maxHeartbeats 4000000 in
theorem c_L_taken (l : Launch) (hfl : l.stackTraces = false) (ex : List (Nat × Nat)) (X : XT) (fu : Nat) (p1 : Int32) (M : Mem) (rs : Int32 × Mem) (hf : f_L_taken fu p1 M = some rs) (sz : Nat) : vx_Met l yL_taken (Cond.codeWith yL_taken cL_taken 4 (some .int) [(0, 6, 9, 14)] :: BIG) rmw_taken (va_Pc [.ref (X.2.2 0), .int p1] (PXN (LW ex) X M sz)) (QI (LW ex) X rs.2 rs.1 sz) (WX (LW ex) X sz) 1 6 (AX (LW ex) X sz) := by
  unfold f_L_taken at hf
  obtain ⟨r, hr9, h2, h1⟩ := wr_e hf
  refine wx_go (M := M) (by decide +kernel) (Nat.le_of_ble_eq_true rfl) ?_
  intro p e s m args below meth c hsz B T N9 hr hlk hxt hw ls hl
  subst hsz
  have hl : lv_has ls 4 [(0, .ref (X.2.2 0)), (1, .int p1)] := hl
  refine lv_aload_n B.hx B.hb dL_taken_0 rfl (lv_at hl 0 rfl) ?_
  refine lv_iload_n B.hx B.hb dL_taken_1 rfl (lv_at hl 1 rfl) ?_
  refine w_calli (rs := r) (As := [.int p1]) (rest := []) B T hw (c_X10_taken l hfl X fu p1 M r hr9 _) cv_L_78 rfl rfl hl.1 rfl rfl ⟨(Nat.le_of_ble_eq_true rfl), (Nat.le_of_ble_eq_true rfl)⟩ (Nat.le_of_ble_eq_true rfl) ⟨(Nat.le_of_ble_eq_true rfl), (Nat.le_of_ble_eq_true rfl)⟩ dL_taken_2 rfl (fun E ce q9 H locs h0 hE hw hce hcv hcl => ?_) (fun h0 H locs hw => ?_)
  · rcases h1 with ⟨h9, -⟩ | ⟨-, hin, h1⟩
    · exact absurd h9 h0
    have hin2 : r.1 = 1 := by simpa using hin
    have h9 := hin2
    · rw [h9] at hE h1
      subst hE
      refine vx_catch (own := RL) (name := exn 1) B.hown (tableOf []) ⟨0, 6, 9, 14⟩ (tableOf []) hxt (fun _ h9 => nomatch h9) (by decide) (by decide) (B.hts _ bl_1) (w_cast T 1 (by decide) (by decide)) hce hcv hcl ?_
      refine lv_astore_n (lv' := [(3, .ref q9), (0, .ref (X.2.2 0)), (1, .int p1)]) B.hx B.hb dL_taken_9 rfl hl (by decide) rfl (fun ls hl => ?_)
      refine lv_sipush (v := (-7100)) B.hx B.hb dL_taken_10 (by decide) ?_
      exact w_xret B hr hlk hw h1 h2 (Nat.le_of_ble_eq_true rfl) (Nat.le_of_ble_eq_true rfl) dL_taken_13
  · have h1 := h1.elim (fun z => z.2) (fun z => absurd h0 z.1)
    refine lv_istore_n (lv' := [(2, .int r.2.1), (0, .ref (X.2.2 0)), (1, .int p1)]) B.hx B.hb dL_taken_5 rfl hl (by decide) rfl (fun ls hl => ?_)
    refine lv_goto (tgt := 14) B.hx B.hb dL_taken_6 (by decide) ?_
    refine lv_iload_n B.hx B.hb dL_taken_14 rfl (lv_at hl 0 rfl) ?_
    exact w_xret B hr hlk hw h1 h2 (Nat.le_of_ble_eq_true rfl) (Nat.le_of_ble_eq_true rfl) dL_taken_15
theorem km_L_318 : Cond.methodLink RL 318 yL_size ∈ BIG := big_at 1312 (by decide +kernel) (by decide +kernel)
theorem kt_L_size : Cond.static yL_size ∈ BIG := big_at 1313 (by decide +kernel) (by decide +kernel)
theorem kc_L_size : Cond.codeWith yL_size cL_size 4 (some .int) [(0, 6, 9, 14)] ∈ BIG := big_at 1314 (by decide +kernel) (by decide +kernel)
abbrev rmw_size : Room := { frames := 9, cells := 1, slots := 6, locals := 152 }
set_option maxRecDepth 100000 in
set_option maxHeartbeats 4000000 in
theorem c_L_size (l : Launch) (hfl : l.stackTraces = false) (ex : List (Nat × Nat)) (X : XT) (fu : Nat) (p1 : Int32) (M : Mem) (rs : Int32 × Mem) (hf : f_L_size fu p1 M = some rs) (sz : Nat) : vx_Met l yL_size (Cond.codeWith yL_size cL_size 4 (some .int) [(0, 6, 9, 14)] :: BIG) rmw_size (va_Pc [.ref (X.2.2 0), .int p1] (PXN (LW ex) X M sz)) (QI (LW ex) X rs.2 rs.1 sz) (WX (LW ex) X sz) 1 6 (AX (LW ex) X sz) := by
  unfold f_L_size at hf
  obtain ⟨r, hr9, h2, h1⟩ := wr_e hf
  refine wx_go (M := M) (by decide +kernel) (Nat.le_of_ble_eq_true rfl) ?_
  intro p e s m args below meth c hsz B T N9 hr hlk hxt hw ls hl
  subst hsz
  have hl : lv_has ls 4 [(0, .ref (X.2.2 0)), (1, .int p1)] := hl
  refine lv_aload_n B.hx B.hb dL_size_0 rfl (lv_at hl 0 rfl) ?_
  refine lv_iload_n B.hx B.hb dL_size_1 rfl (lv_at hl 1 rfl) ?_
  refine w_calli (rs := r) (As := [.int p1]) (rest := []) B T hw (c_X10_size l hfl X fu p1 M r hr9 _) cv_L_81 rfl rfl hl.1 rfl rfl ⟨(Nat.le_of_ble_eq_true rfl), (Nat.le_of_ble_eq_true rfl)⟩ (Nat.le_of_ble_eq_true rfl) ⟨(Nat.le_of_ble_eq_true rfl), (Nat.le_of_ble_eq_true rfl)⟩ dL_size_2 rfl (fun E ce q9 H locs h0 hE hw hce hcv hcl => ?_) (fun h0 H locs hw => ?_)
  · rcases h1 with ⟨h9, -⟩ | ⟨-, hin, h1⟩
    · exact absurd h9 h0
    have hin2 : r.1 = 1 := by simpa using hin
    have h9 := hin2
    · rw [h9] at hE h1
      subst hE
      refine vx_catch (own := RL) (name := exn 1) B.hown (tableOf []) ⟨0, 6, 9, 14⟩ (tableOf []) hxt (fun _ h9 => nomatch h9) (by decide) (by decide) (B.hts _ bl_1) (w_cast T 1 (by decide) (by decide)) hce hcv hcl ?_
      refine lv_astore_n (lv' := [(3, .ref q9), (0, .ref (X.2.2 0)), (1, .int p1)]) B.hx B.hb dL_size_9 rfl hl (by decide) rfl (fun ls hl => ?_)
      refine lv_sipush (v := (-7100)) B.hx B.hb dL_size_10 (by decide) ?_
      exact w_xret B hr hlk hw h1 h2 (Nat.le_of_ble_eq_true rfl) (Nat.le_of_ble_eq_true rfl) dL_size_13
  · have h1 := h1.elim (fun z => z.2) (fun z => absurd h0 z.1)
    refine lv_istore_n (lv' := [(2, .int r.2.1), (0, .ref (X.2.2 0)), (1, .int p1)]) B.hx B.hb dL_size_5 rfl hl (by decide) rfl (fun ls hl => ?_)
    refine lv_goto (tgt := 14) B.hx B.hb dL_size_6 (by decide) ?_
    refine lv_iload_n B.hx B.hb dL_size_14 rfl (lv_at hl 0 rfl) ?_
    exact w_xret B hr hlk hw h1 h2 (Nat.le_of_ble_eq_true rfl) (Nat.le_of_ble_eq_true rfl) dL_size_15
theorem km_L_293 : Cond.methodLink RL 293 yL_answersAnew ∈ BIG := big_at 1126 (by decide +kernel) (by decide +kernel)
theorem kt_L_answersAnew : Cond.static yL_answersAnew ∈ BIG := big_at 1127 (by decide +kernel) (by decide +kernel)
theorem kc_L_answersAnew : Cond.codeWith yL_answersAnew cL_answersAnew 3 (some .int) [(0, 5, 8, 18)] ∈ BIG := big_at 1128 (by decide +kernel) (by decide +kernel)
abbrev rmw_answersAnew : Room := { frames := 8, cells := 1, slots := 6, locals := 155 }
set_option maxRecDepth 100000 in
set_option maxHeartbeats 4000000 in
theorem c_L_answersAnew (l : Launch) (hfl : l.stackTraces = false) (ex : List (Nat × Nat)) (X : XT) (fu : Nat) (M : Mem) (rs : Int32 × Mem) (hf : f_L_answersAnew fu M = some rs) (sz : Nat) : vx_Met l yL_answersAnew (Cond.codeWith yL_answersAnew cL_answersAnew 3 (some .int) [(0, 5, 8, 18)] :: BIG) rmw_answersAnew (va_Pc [.ref (X.2.2 0)] (PXN (LW ex) X M sz)) (QI (LW ex) X rs.2 rs.1 sz) (WX (LW ex) X sz) 1 6 (AX (LW ex) X sz) := by
  unfold f_L_answersAnew at hf
  obtain ⟨r, hr9, h2, h1⟩ := wr_e hf
  refine wx_go (M := M) (by decide +kernel) (Nat.le_of_ble_eq_true rfl) ?_
  intro p e s m args below meth c hsz B T N9 hr hlk hxt hw ls hl
  subst hsz
  have hl : lv_has ls 3 [(0, .ref (X.2.2 0))] := hl
  refine lv_aload_n B.hx B.hb dL_answersAnew_0 rfl (lv_at hl 0 rfl) ?_
  refine w_calli (rs := r) (As := []) (rest := []) B T hw (c_X10_answersAnew l hfl X fu M r hr9 _) cv_L_84 rfl rfl hl.1 rfl rfl ⟨(Nat.le_of_ble_eq_true rfl), (Nat.le_of_ble_eq_true rfl)⟩ (Nat.le_of_ble_eq_true rfl) ⟨(Nat.le_of_ble_eq_true rfl), (Nat.le_of_ble_eq_true rfl)⟩ dL_answersAnew_1 rfl (fun E ce q9 H locs h0 hE hw hce hcv hcl => ?_) (fun h0 H locs hw => ?_)
  · rcases h1 with ⟨h9, -⟩ | ⟨-, hin, h1⟩
    · exact absurd h9 h0
    have hin2 : r.1 = 3 := by simpa using hin
    have h9 := hin2
    · rw [h9] at hE h1
      subst hE
      refine vx_catch (own := RL) (name := exn 3) B.hown (tableOf []) ⟨0, 5, 8, 18⟩ (tableOf []) hxt (fun _ h9 => nomatch h9) (by decide) (by decide) (B.hts _ bl_3) (w_cast T 3 (by decide) (by decide)) hce hcv hcl ?_
      refine lv_astore_n (lv' := [(2, .ref q9), (0, .ref (X.2.2 0))]) B.hx B.hb dL_answersAnew_8 rfl hl (by decide) rfl (fun ls hl => ?_)
      refine lv_sipush (v := (-7300)) B.hx B.hb dL_answersAnew_9 (by decide) ?_
      exact w_xret B hr hlk hw h1 h2 (Nat.le_of_ble_eq_true rfl) (Nat.le_of_ble_eq_true rfl) dL_answersAnew_12
  · have h1 := h1.elim (fun z => z.2) (fun z => absurd h0 z.1)
    refine lv_istore_n (lv' := [(1, .int r.2.1), (0, .ref (X.2.2 0))]) B.hx B.hb dL_answersAnew_4 rfl hl (by decide) rfl (fun ls hl => ?_)
    refine lv_goto (tgt := 13) B.hx B.hb dL_answersAnew_5 (by decide) ?_
    refine lv_iload_n B.hx B.hb dL_answersAnew_13 rfl (lv_at hl 0 rfl) ?_
    exact w_xret B hr hlk hw h1 h2 (Nat.le_of_ble_eq_true rfl) (Nat.le_of_ble_eq_true rfl) dL_answersAnew_14
theorem km_L_296 : Cond.methodLink RL 296 yL_answerAnew ∈ BIG := big_at 1140 (by decide +kernel) (by decide +kernel)
theorem kt_L_answerAnew : Cond.static yL_answerAnew ∈ BIG := big_at 1141 (by decide +kernel) (by decide +kernel)
theorem kc_L_answerAnew : Cond.codeWith yL_answerAnew cL_answerAnew 5 (some .int) [(0, 7, 10, 18), (0, 7, 16, 14)] ∈ BIG := big_at 1142 (by decide +kernel) (by decide +kernel)
abbrev rmw_answerAnew : Room := { frames := 8, cells := 2, slots := 12, locals := 157 }
set_option maxRecDepth 100000 in
set_option maxHeartbeats 4000000 in
theorem c_L_answerAnew (l : Launch) (hfl : l.stackTraces = false) (ex : List (Nat × Nat)) (X : XT) (fu : Nat) (p1 : Int32) (p2 : Int32) (M : Mem) (rs : Int32 × Mem) (hf : f_L_answerAnew fu p1 p2 M = some rs) (sz : Nat) : vx_Met l yL_answerAnew (Cond.codeWith yL_answerAnew cL_answerAnew 5 (some .int) [(0, 7, 10, 18), (0, 7, 16, 14)] :: BIG) rmw_answerAnew (va_Pc [.ref (X.2.2 0), .int p1, .int p2] (PXN (LW ex) X M sz)) (QI (LW ex) X rs.2 rs.1 sz) (WX (LW ex) X sz) 2 12 (AX (LW ex) X sz) := by
  unfold f_L_answerAnew at hf
  obtain ⟨r, hr9, h2, h1⟩ := wr_e hf
  refine wx_go (M := M) (by decide +kernel) (Nat.le_of_ble_eq_true rfl) ?_
  intro p e s m args below meth c hsz B T N9 hr hlk hxt hw ls hl
  subst hsz
  have hl : lv_has ls 5 [(0, .ref (X.2.2 0)), (1, .int p1), (2, .int p2)] := hl
  refine lv_aload_n B.hx B.hb dL_answerAnew_0 rfl (lv_at hl 0 rfl) ?_
  refine lv_iload_n B.hx B.hb dL_answerAnew_1 rfl (lv_at hl 1 rfl) ?_
  refine lv_iload_n B.hx B.hb dL_answerAnew_2 rfl (lv_at hl 2 rfl) ?_
  refine w_calli (rs := r) (As := [.int p1, .int p2]) (rest := []) B T hw (c_X10_answerAnew l hfl X fu p1 p2 M r hr9 _) cv_L_88 rfl rfl hl.1 rfl rfl ⟨(Nat.le_of_ble_eq_true rfl), (Nat.le_of_ble_eq_true rfl)⟩ (Nat.le_of_ble_eq_true rfl) ⟨(Nat.le_of_ble_eq_true rfl), (Nat.le_of_ble_eq_true rfl)⟩ dL_answerAnew_3 rfl (fun E ce q9 H locs h0 hE hw hce hcv hcl => ?_) (fun h0 H locs hw => ?_)
  · rcases h1 with ⟨h9, -⟩ | ⟨-, hin, h1⟩
    · exact absurd h9 h0
    have hin2 : r.1 = 3 ∨ r.1 = 1 := by simpa using hin
    rcases hin2 with h9 | h9
    · rw [h9] at hE h1
      subst hE
      refine vx_catch (own := RL) (name := exn 3) B.hown (tableOf []) ⟨0, 7, 10, 18⟩ (tableOf [(0, 7, 16, 14)]) hxt (fun _ h9 => nomatch h9) (by decide) (by decide) (B.hts _ bl_3) (w_cast T 3 (by decide) (by decide)) hce hcv hcl ?_
      refine lv_astore (lv' := [(4, .ref q9), (0, .ref (X.2.2 0)), (1, .int p1), (2, .int p2)]) B.hx B.hb dL_answerAnew_10 hl (by decide) rfl (fun ls hl => ?_)
      refine lv_sipush (v := (-7300)) B.hx B.hb dL_answerAnew_12 (by decide) ?_
      exact w_xret B hr hlk hw h1 h2 (Nat.le_of_ble_eq_true rfl) (Nat.le_of_ble_eq_true rfl) dL_answerAnew_15
    · rw [h9] at hE h1
      subst hE
      refine vx_catch (own := RL) (name := exn 1) B.hown (tableOf [(0, 7, 10, 18)]) ⟨0, 7, 16, 14⟩ (tableOf []) hxt (List.forall_mem_cons.mpr ⟨w_ps3 B N9 1 (by decide) (by decide) (by decide), (fun _ h9 => nomatch h9)⟩) (by decide) (by decide) (B.hts _ bl_1) (w_cast T 1 (by decide) (by decide)) hce hcv hcl ?_
      refine lv_astore (lv' := [(4, .ref q9), (0, .ref (X.2.2 0)), (1, .int p1), (2, .int p2)]) B.hx B.hb dL_answerAnew_16 hl (by decide) rfl (fun ls hl => ?_)
      refine lv_sipush (v := (-7100)) B.hx B.hb dL_answerAnew_18 (by decide) ?_
      exact w_xret B hr hlk hw h1 h2 (Nat.le_of_ble_eq_true rfl) (Nat.le_of_ble_eq_true rfl) dL_answerAnew_21
  · have h1 := h1.elim (fun z => z.2) (fun z => absurd h0 z.1)
    refine lv_istore_n (lv' := [(3, .int r.2.1), (0, .ref (X.2.2 0)), (1, .int p1), (2, .int p2)]) B.hx B.hb dL_answerAnew_6 rfl hl (by decide) rfl (fun ls hl => ?_)
    refine lv_goto (tgt := 22) B.hx B.hb dL_answerAnew_7 (by decide) ?_
    refine lv_iload_n B.hx B.hb dL_answerAnew_22 rfl (lv_at hl 0 rfl) ?_
    exact w_xret B hr hlk hw h1 h2 (Nat.le_of_ble_eq_true rfl) (Nat.le_of_ble_eq_true rfl) dL_answerAnew_23
theorem km_L_309 : Cond.methodLink RL 309 yL_step ∈ BIG := big_at 1239 (by decide +kernel) (by decide +kernel)
theorem kt_L_step : Cond.static yL_step ∈ BIG := big_at 1240 (by decide +kernel) (by decide +kernel)
theorem kc_L_step : Cond.codeWith yL_step cL_step 9 (some .int) [(0, 15, 18, 14), (0, 15, 24, 16), (0, 15, 30, 18)] ∈ BIG := big_at 1241 (by decide +kernel) (by decide +kernel)
abbrev rmw_step : Room := { frames := 9, cells := 3, slots := 18, locals := 157 }
set_option maxRecDepth 100000 in
set_option maxHeartbeats 4000000 in
theorem c_L_step (l : Launch) (hfl : l.stackTraces = false) (ex : List (Nat × Nat)) (X : XT) (fu : Nat) (p1 : Int32) (p2 : Int32) (p3 : Int32) (p4 : Int32) (p5 : Int32) (p6 : Int32) (M : Mem) (rs : Int32 × Mem) (hf : f_L_step fu p1 p2 p3 p4 p5 p6 M = some rs) (sz : Nat) : vx_Met l yL_step (Cond.codeWith yL_step cL_step 9 (some .int) [(0, 15, 18, 14), (0, 15, 24, 16), (0, 15, 30, 18)] :: BIG) rmw_step (va_Pc [.ref (X.2.2 0), .int p1, .int p2, .int p3, .int p4, .int p5, .int p6] (PXN (LW ex) X M sz)) (QI (LW ex) X rs.2 rs.1 sz) (WX (LW ex) X sz) 3 18 (AX (LW ex) X sz) := by
  unfold f_L_step at hf
  obtain ⟨r, hr9, h2, h1⟩ := wr_e hf
  refine wx_go (M := M) (by decide +kernel) (Nat.le_of_ble_eq_true rfl) ?_
  intro p e s m args below meth c hsz B T N9 hr hlk hxt hw ls hl
  subst hsz
  have hl : lv_has ls 9 [(0, .ref (X.2.2 0)), (1, .int p1), (2, .int p2), (3, .int p3), (4, .int p4), (5, .int p5), (6, .int p6)] := hl
  refine lv_aload_n B.hx B.hb dL_step_0 rfl (lv_at hl 0 rfl) ?_
  refine lv_iload_n B.hx B.hb dL_step_1 rfl (lv_at hl 1 rfl) ?_
  refine lv_iload_n B.hx B.hb dL_step_2 rfl (lv_at hl 2 rfl) ?_
  refine lv_iload_n B.hx B.hb dL_step_3 rfl (lv_at hl 3 rfl) ?_
  refine lv_iload B.hx B.hb dL_step_4 (lv_at hl 4 rfl) ?_
  refine lv_iload B.hx B.hb dL_step_6 (lv_at hl 5 rfl) ?_
  refine lv_iload B.hx B.hb dL_step_8 (lv_at hl 6 rfl) ?_
  refine w_calli (rs := r) (As := [.int p1, .int p2, .int p3, .int p4, .int p5, .int p6]) (rest := []) B T hw (c_X10_step l hfl X fu p1 p2 p3 p4 p5 p6 M r hr9 _) cv_L_91 rfl rfl hl.1 rfl rfl ⟨(Nat.le_of_ble_eq_true rfl), (Nat.le_of_ble_eq_true rfl)⟩ (Nat.le_of_ble_eq_true rfl) ⟨(Nat.le_of_ble_eq_true rfl), (Nat.le_of_ble_eq_true rfl)⟩ dL_step_10 rfl (fun E ce q9 H locs h0 hE hw hce hcv hcl => ?_) (fun h0 H locs hw => ?_)
  · rcases h1 with ⟨h9, -⟩ | ⟨-, hin, h1⟩
    · exact absurd h9 h0
    have hin2 : r.1 = 1 ∨ r.1 = 2 ∨ r.1 = 3 := by simpa using hin
    rcases hin2 with h9 | h9 | h9
    · rw [h9] at hE h1
      subst hE
      refine vx_catch (own := RL) (name := exn 1) B.hown (tableOf []) ⟨0, 15, 18, 14⟩ (tableOf [(0, 15, 24, 16), (0, 15, 30, 18)]) hxt (fun _ h9 => nomatch h9) (by decide) (by decide) (B.hts _ bl_1) (w_cast T 1 (by decide) (by decide)) hce hcv hcl ?_
      refine lv_astore (lv' := [(8, .ref q9), (0, .ref (X.2.2 0)), (1, .int p1), (2, .int p2), (3, .int p3), (4, .int p4), (5, .int p5), (6, .int p6)]) B.hx B.hb dL_step_18 hl (by decide) rfl (fun ls hl => ?_)
      refine lv_sipush (v := (-7100)) B.hx B.hb dL_step_20 (by decide) ?_
      exact w_xret B hr hlk hw h1 h2 (Nat.le_of_ble_eq_true rfl) (Nat.le_of_ble_eq_true rfl) dL_step_23
    · rw [h9] at hE h1
      subst hE
      refine vx_catch (own := RL) (name := exn 2) B.hown (tableOf [(0, 15, 18, 14)]) ⟨0, 15, 24, 16⟩ (tableOf [(0, 15, 30, 18)]) hxt (List.forall_mem_cons.mpr ⟨w_ps1 B N9 2 (by decide) (by decide) (by decide), (fun _ h9 => nomatch h9)⟩) (by decide) (by decide) (B.hts _ bl_2) (w_cast T 2 (by decide) (by decide)) hce hcv hcl ?_
      refine lv_astore (lv' := [(8, .ref q9), (0, .ref (X.2.2 0)), (1, .int p1), (2, .int p2), (3, .int p3), (4, .int p4), (5, .int p5), (6, .int p6)]) B.hx B.hb dL_step_24 hl (by decide) rfl (fun ls hl => ?_)
      refine lv_sipush (v := (-7200)) B.hx B.hb dL_step_26 (by decide) ?_
      exact w_xret B hr hlk hw h1 h2 (Nat.le_of_ble_eq_true rfl) (Nat.le_of_ble_eq_true rfl) dL_step_29
    · rw [h9] at hE h1
      subst hE
      refine vx_catch (own := RL) (name := exn 3) B.hown (tableOf [(0, 15, 18, 14), (0, 15, 24, 16)]) ⟨0, 15, 30, 18⟩ (tableOf []) hxt (List.forall_mem_cons.mpr ⟨w_ps1 B N9 3 (by decide) (by decide) (by decide), (List.forall_mem_cons.mpr ⟨w_ps2 B N9 3 (by decide) (by decide) (by decide), (fun _ h9 => nomatch h9)⟩)⟩) (by decide) (by decide) (B.hts _ bl_3) (w_cast T 3 (by decide) (by decide)) hce hcv hcl ?_
      refine lv_astore (lv' := [(8, .ref q9), (0, .ref (X.2.2 0)), (1, .int p1), (2, .int p2), (3, .int p3), (4, .int p4), (5, .int p5), (6, .int p6)]) B.hx B.hb dL_step_30 hl (by decide) rfl (fun ls hl => ?_)
      refine lv_sipush (v := (-7300)) B.hx B.hb dL_step_32 (by decide) ?_
      exact w_xret B hr hlk hw h1 h2 (Nat.le_of_ble_eq_true rfl) (Nat.le_of_ble_eq_true rfl) dL_step_35
  · have h1 := h1.elim (fun z => z.2) (fun z => absurd h0 z.1)
    refine lv_istore (lv' := [(7, .int r.2.1), (0, .ref (X.2.2 0)), (1, .int p1), (2, .int p2), (3, .int p3), (4, .int p4), (5, .int p5), (6, .int p6)]) B.hx B.hb dL_step_13 hl (by decide) rfl (fun ls hl => ?_)
    refine lv_goto (tgt := 36) B.hx B.hb dL_step_15 (by decide) ?_
    refine lv_iload B.hx B.hb dL_step_36 (lv_at hl 0 rfl) ?_
    exact w_xret B hr hlk hw h1 h2 (Nat.le_of_ble_eq_true rfl) (Nat.le_of_ble_eq_true rfl) dL_step_38
theorem km_L_312 : Cond.methodLink RL 312 yL_run ∈ BIG := big_at 1256 (by decide +kernel) (by decide +kernel)
theorem kt_L_run : Cond.static yL_run ∈ BIG := big_at 1257 (by decide +kernel) (by decide +kernel)
theorem kc_L_run : Cond.codeWith yL_run cL_run 3 (some .int) [(0, 5, 8, 18)] ∈ BIG := big_at 1258 (by decide +kernel) (by decide +kernel)
abbrev rmw_run : Room := { frames := 8, cells := 1, slots := 6, locals := 190 }
set_option maxRecDepth 100000 in
set_option maxHeartbeats 4000000 in
theorem c_L_run (l : Launch) (hfl : l.stackTraces = false) (ex : List (Nat × Nat)) (X : XT) (fu : Nat) (M : Mem) (rs : Int32 × Mem) (hf : f_L_run fu M = some rs) (sz : Nat) : vx_Met l yL_run (Cond.codeWith yL_run cL_run 3 (some .int) [(0, 5, 8, 18)] :: BIG) rmw_run (va_Pc [.ref (X.2.2 0)] (PXN (LW ex) X M sz)) (QI (LW ex) X rs.2 rs.1 sz) (WX (LW ex) X sz) 1 6 (AX (LW ex) X sz) := by
  unfold f_L_run at hf
  obtain ⟨r, hr9, h2, h1⟩ := wr_e hf
  refine wx_go (M := M) (by decide +kernel) (Nat.le_of_ble_eq_true rfl) ?_
  intro p e s m args below meth c hsz B T N9 hr hlk hxt hw ls hl
  subst hsz
  have hl : lv_has ls 3 [(0, .ref (X.2.2 0))] := hl
  refine lv_aload_n B.hx B.hb dL_run_0 rfl (lv_at hl 0 rfl) ?_
  refine w_calli (rs := r) (As := []) (rest := []) B T hw (c_X10_run l hfl X fu M r hr9 _) cv_L_95 rfl rfl hl.1 rfl rfl ⟨(Nat.le_of_ble_eq_true rfl), (Nat.le_of_ble_eq_true rfl)⟩ (Nat.le_of_ble_eq_true rfl) ⟨(Nat.le_of_ble_eq_true rfl), (Nat.le_of_ble_eq_true rfl)⟩ dL_run_1 rfl (fun E ce q9 H locs h0 hE hw hce hcv hcl => ?_) (fun h0 H locs hw => ?_)
  · rcases h1 with ⟨h9, -⟩ | ⟨-, hin, h1⟩
    · exact absurd h9 h0
    have hin2 : r.1 = 3 := by simpa using hin
    have h9 := hin2
    · rw [h9] at hE h1
      subst hE
      refine vx_catch (own := RL) (name := exn 3) B.hown (tableOf []) ⟨0, 5, 8, 18⟩ (tableOf []) hxt (fun _ h9 => nomatch h9) (by decide) (by decide) (B.hts _ bl_3) (w_cast T 3 (by decide) (by decide)) hce hcv hcl ?_
      refine lv_astore_n (lv' := [(2, .ref q9), (0, .ref (X.2.2 0))]) B.hx B.hb dL_run_8 rfl hl (by decide) rfl (fun ls hl => ?_)
      refine lv_sipush (v := (-7300)) B.hx B.hb dL_run_9 (by decide) ?_
      exact w_xret B hr hlk hw h1 h2 (Nat.le_of_ble_eq_true rfl) (Nat.le_of_ble_eq_true rfl) dL_run_12
  · have h1 := h1.elim (fun z => z.2) (fun z => absurd h0 z.1)
    refine lv_istore_n (lv' := [(1, .int r.2.1), (0, .ref (X.2.2 0))]) B.hx B.hb dL_run_4 rfl hl (by decide) rfl (fun ls hl => ?_)
    refine lv_goto (tgt := 13) B.hx B.hb dL_run_5 (by decide) ?_
    refine lv_iload_n B.hx B.hb dL_run_13 rfl (lv_at hl 0 rfl) ?_
    exact w_xret B hr hlk hw h1 h2 (Nat.le_of_ble_eq_true rfl) (Nat.le_of_ble_eq_true rfl) dL_run_14
