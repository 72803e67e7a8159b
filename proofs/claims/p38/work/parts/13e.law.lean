abbrev rm_L_writes : Room := { frames := 11, cells := 52, slots := 312, locals := 204 }
set_option maxRecDepth 100000 in
set_option maxHeartbeats 8000000 in
theorem c_L_writes (l : Launch) (hfl : l.stackTraces = false) (ex : List (Nat × Nat)) (X : XT) (fu : Nat) (p1 : Int32) (p2 : Int32) (p3 : Int32) (M : Mem)  (rs : (Int32 × Mem)) (hf : f_L_writes fu p1 p2 p3 M = some rs) (sz : Nat) : Met l yL_writes (wbig yL_writes cL_writes 20 (some .boolean)) rm_L_writes (va_Pc [.ref (X.2.2 0), .int p1, .int p2, .int p3, .ref (X.2.2 142), .ref (X.2.2 143), .ref (X.2.2 144), .ref (X.2.2 145), .ref (X.2.2 147), .ref (X.2.2 148), .ref (X.2.2 153), .ref (X.2.2 152)] (PXN (LW ex) X M sz)) (QI (LW ex) X rs.2 rs.1 sz) 52 312 (AX (LW ex) X sz) := by
  refine wn_go (L := (LW ex)) (M := M) (by decide +kernel) (Nat.le_of_ble_eq_true rfl) ?_
  intro p e s m args below meth c hsz B T N9 hr hlk hw ls hl
  subst hsz
  have hx := B.hx
  have hb := B.hb
  have hl : lv_has ls 20 [(0, .ref (X.2.2 0)), (1, .int p1), (2, .int p2), (3, .int p3), (4, .ref (X.2.2 142)), (5, .ref (X.2.2 143)), (6, .ref (X.2.2 144)), (7, .ref (X.2.2 145)), (8, .ref (X.2.2 147)), (9, .ref (X.2.2 148)), (10, .ref (X.2.2 153)), (11, .ref (X.2.2 152))] := hl
  generalize hQ : MQ below _ args s 52 312 (AX (LW ex) X s.heap.size) = Q
  unfold f_L_writes at hf
  refine lv_iload_n hx hb dL_writes_0 rfl (lv_at hl 2 rfl) ?_
  refine lv_bipush (v := 6) hx hb dL_writes_1 (by decide) ?_
  obtain ⟨r_2, h_1, hf⟩ := bd_e hf
  refine q_callSi (M' := M) (As := [.int p2, .int 6]) (rest := []) B hw (c_L_low l _ X fu p2 6 M r_2 h_1 _) cs_L_130 rfl hl.1 rfl rfl ⟨(Nat.le_of_ble_eq_true rfl), (Nat.le_of_ble_eq_true rfl)⟩ (Nat.le_of_ble_eq_true rfl) ⟨(Nat.le_of_ble_eq_true rfl), (Nat.le_of_ble_eq_true rfl)⟩ dL_writes_3 rfl (fun H locs hw => ?_)
  refine lv_istore (lv' := [(12, .int r_2), (0, .ref (X.2.2 0)), (1, .int p1), (2, .int p2), (3, .int p3), (4, .ref (X.2.2 142)), (5, .ref (X.2.2 143)), (6, .ref (X.2.2 144)), (7, .ref (X.2.2 145)), (8, .ref (X.2.2 147)), (9, .ref (X.2.2 148)), (10, .ref (X.2.2 153)), (11, .ref (X.2.2 152))]) hx hb dL_writes_6 hl (by decide) rfl (fun ls hl => ?_)
  refine lv_iload_n hx hb dL_writes_8 rfl (lv_at hl 4 rfl) ?_
  refine lv_bipush (v := 12) hx hb dL_writes_9 (by decide) ?_
  obtain ⟨r_4, h_3, hf⟩ := bd_e hf
  refine q_callSi (M' := M) (As := [.int p3, .int 12]) (rest := []) B hw (c_L_low l _ X fu p3 12 M r_4 h_3 _) cs_L_130 rfl hl.1 rfl rfl ⟨(Nat.le_of_ble_eq_true rfl), (Nat.le_of_ble_eq_true rfl)⟩ (Nat.le_of_ble_eq_true rfl) ⟨(Nat.le_of_ble_eq_true rfl), (Nat.le_of_ble_eq_true rfl)⟩ dL_writes_11 rfl (fun H locs hw => ?_)
  refine lv_istore (lv' := [(13, .int r_4), (12, .int r_2), (0, .ref (X.2.2 0)), (1, .int p1), (2, .int p2), (3, .int p3), (4, .ref (X.2.2 142)), (5, .ref (X.2.2 143)), (6, .ref (X.2.2 144)), (7, .ref (X.2.2 145)), (8, .ref (X.2.2 147)), (9, .ref (X.2.2 148)), (10, .ref (X.2.2 153)), (11, .ref (X.2.2 152))]) hx hb dL_writes_14 hl (by decide) rfl (fun ls hl => ?_)
  refine lv_iload_n hx hb dL_writes_16 rfl (lv_at hl 3 rfl) ?_
  refine lv_iconst (v := 5) hx hb dL_writes_17 (by decide) ?_
  refine lv_icmp_ge (tgt := 409) hx hb dL_writes_18 (by decide) (fun c_5 => ?_) (fun c_5 => ?_)
  · have hf := it_e hf c_5
    refine lv_aload hx hb dL_writes_409 (lv_at hl 7 rfl) ?_
    refine lv_iload hx hb dL_writes_411 (lv_at hl 1 rfl) ?_
    obtain ⟨g_6, hf⟩ := grd_e hf
    refine w_iald B hw (i := 143) (kw143 _) g_6 dL_writes_413 ?_
    refine jn_e hf (fun kk => ∀ (x13_8 : Int32) (H : Heap) (locs : List Loc) (ls : Array Slot), HW (LW ex) X M s H locs → lv_has ls 20 [(0, .ref (X.2.2 0)), (1, .int p1), (2, .int p2), (3, .int p3), (4, .ref (X.2.2 142)), (5, .ref (X.2.2 143)), (6, .ref (X.2.2 144)), (7, .ref (X.2.2 145)), (8, .ref (X.2.2 147)), (9, .ref (X.2.2 148)), (11, .ref (X.2.2 152)), (12, .int r_2), (13, .int x13_8)] → kk x13_8 = some rs → W p l e rm_L_writes s m args below meth c H locs 0 0 Q (F0 m 448 ls [])) ?_ (fun k448_7 J448_7 hf => ?_)
    · intro x13_8 H locs ls hw hl hf
      refine lv_aload hx hb dL_writes_448 (lv_at hl 4 rfl) ?_
      refine lv_aload hx hb dL_writes_450 (lv_at hl 5 rfl) ?_
      refine lv_iload hx hb dL_writes_452 (lv_at hl 11 rfl) ?_
      refine lv_iload hx hb dL_writes_454 (lv_at hl 12 rfl) ?_
      obtain ⟨r_10, h_9, hf⟩ := bd_e hf
      refine q_callSi (M' := M) (As := [.ref (X.2.2 142), .ref (X.2.2 143), .int r_2, .int x13_8]) (rest := []) B hw (c_L_place l _ X fu r_2 x13_8 M r_10 h_9 _) cs_L_121 rfl hl.1 rfl rfl ⟨(Nat.le_of_ble_eq_true rfl), (Nat.le_of_ble_eq_true rfl)⟩ (Nat.le_of_ble_eq_true rfl) ⟨(Nat.le_of_ble_eq_true rfl), (Nat.le_of_ble_eq_true rfl)⟩ dL_writes_456 rfl (fun H locs hw => ?_)
      refine lv_istore (lv' := [(14, .int r_10), (0, .ref (X.2.2 0)), (1, .int p1), (2, .int p2), (3, .int p3), (4, .ref (X.2.2 142)), (5, .ref (X.2.2 143)), (6, .ref (X.2.2 144)), (7, .ref (X.2.2 145)), (8, .ref (X.2.2 147)), (9, .ref (X.2.2 148)), (11, .ref (X.2.2 152)), (12, .int r_2), (13, .int x13_8)]) hx hb dL_writes_459 hl (by decide) rfl (fun ls hl => ?_)
      refine lv_iload_n hx hb dL_writes_461 rfl (lv_at hl 2 rfl) ?_
      refine lv_bipush (v := 8) hx hb dL_writes_462 (by decide) ?_
      refine lv_icmp_ge (tgt := 695) hx hb dL_writes_464 (by decide) (fun c_11 => ?_) (fun c_11 => ?_)
      · have hf := it_e hf c_11
        refine lv_iload hx hb dL_writes_695 (lv_at hl 0 rfl) ?_
        refine lv_if_ge (tgt := 733) hx hb dL_writes_697 (by decide) (fun c_12 => ?_) (fun c_12 => ?_)
        · have hf := it_e hf c_12
          refine lv_aload hx hb dL_writes_733 (lv_at hl 5 rfl) ?_
          refine lv_aload hx hb dL_writes_735 (lv_at hl 6 rfl) ?_
          refine lv_iload hx hb dL_writes_737 (lv_at hl 12 rfl) ?_
          refine lv_iload hx hb dL_writes_739 (lv_at hl 0 rfl) ?_
          obtain ⟨M_14, h_13, hf⟩ := bd_e hf
          refine q_callSv (M' := M_14) (As := [.ref (X.2.2 142), .ref (X.2.2 143), .int r_2, .int r_10]) (rest := []) B hw (c_L_lift l _ X fu r_2 r_10 M M_14 h_13 _) cs_L_180 rfl hl.1 rfl rfl ⟨(Nat.le_of_ble_eq_true rfl), (Nat.le_of_ble_eq_true rfl)⟩ (Nat.le_of_ble_eq_true rfl) ⟨(Nat.le_of_ble_eq_true rfl), (Nat.le_of_ble_eq_true rfl)⟩ dL_writes_741 rfl (fun H locs hw => ?_)
          refine lv_aload hx hb dL_writes_744 (lv_at hl 9 rfl) ?_
          refine lv_aload hx hb dL_writes_746 (lv_at hl 10 rfl) ?_
          refine lv_aload hx hb dL_writes_748 (lv_at hl 7 rfl) ?_
          refine lv_aload hx hb dL_writes_750 (lv_at hl 8 rfl) ?_
          refine lv_aload hx hb dL_writes_752 (lv_at hl 11 rfl) ?_
          refine lv_iload hx hb dL_writes_754 (lv_at hl 12 rfl) ?_
          obtain ⟨M_16, h_15, hf⟩ := bd_e hf
          refine q_callSv (M' := M_16) (As := [.ref (X.2.2 147), .ref (X.2.2 148), .ref (X.2.2 144), .ref (X.2.2 145), .ref (X.2.2 152), .int r_2]) (rest := []) B hw (c_L_written l _ X fu r_2 M_14 M_16 h_15 _) cs_L_158 rfl hl.1 rfl rfl ⟨(Nat.le_of_ble_eq_true rfl), (Nat.le_of_ble_eq_true rfl)⟩ (Nat.le_of_ble_eq_true rfl) ⟨(Nat.le_of_ble_eq_true rfl), (Nat.le_of_ble_eq_true rfl)⟩ dL_writes_756 rfl (fun H locs hw => ?_)
          refine lv_aload_n hx hb dL_writes_759 rfl (lv_at hl 1 rfl) ?_
          refine lv_iload hx hb dL_writes_760 (lv_at hl 12 rfl) ?_
          refine lv_iload hx hb dL_writes_762 (lv_at hl 13 rfl) ?_
          obtain ⟨r_18, M_19, h_17, hf⟩ := bm_e hf
          refine w_wrap (n := 3) (M' := M_19) (v := r_18) (As := [.ref (X.2.2 0), .int r_2, .int x13_8]) (rest := []) B T N9 hw (c_L_remove l hfl _ X fu r_2 x13_8 M_16 (r_18, M_19) h_17 _) km_L_177 kt_L_remove ki_L kc_L_remove ⟨by decide +kernel, by decide +kernel, by decide +kernel⟩ rfl hl.1 rfl rfl ⟨(Nat.le_of_ble_eq_true rfl), (Nat.le_of_ble_eq_true rfl)⟩ (Nat.le_of_ble_eq_true rfl) ⟨(Nat.le_of_ble_eq_true rfl), (Nat.le_of_ble_eq_true rfl)⟩ dL_writes_764 rfl (fun H locs hw => ?_)
          refine W.widen (k := 2) (n := 12) (by omega) (by omega) ?_
          refine lv_aload hx hb dL_writes_767 (lv_at hl 6 rfl) ?_
          refine lv_iload hx hb dL_writes_769 (lv_at hl 12 rfl) ?_
          refine w_iald B hw (i := 143) (kw143 _) g_6 dL_writes_771 ?_
          refine lv_icmp_ne (tgt := 779) hx hb dL_writes_772 (by decide) (fun c_20 => ?_) (fun c_20 => ?_)
          · have hf := ie_e hf c_20
            refine lv_iconst (v := 0) hx hb dL_writes_779 (by decide) ?_
            refine W.widen (k := 52) (n := 312) (by omega) (by omega) ?_
            cases hf
            subst hQ
            exact q_zret B hr hlk rfl hw rfl rfl dL_writes_780
          · have hf := it_e hf c_20
            refine lv_iconst (v := 1) hx hb dL_writes_775 (by decide) ?_
            refine lv_goto (tgt := 780) hx hb dL_writes_776 (by decide) ?_
            refine W.widen (k := 52) (n := 312) (by omega) (by omega) ?_
            cases hf
            subst hQ
            exact q_zret B hr hlk rfl hw rfl rfl dL_writes_780
        · have hf := ie_e hf c_12
          refine lv_aload_n hx hb dL_writes_700 rfl (lv_at hl 1 rfl) ?_
          refine lv_iload hx hb dL_writes_701 (lv_at hl 12 rfl) ?_
          refine lv_iload hx hb dL_writes_703 (lv_at hl 13 rfl) ?_
          obtain ⟨r_22, M_23, h_21, hf⟩ := bm_e hf
          refine w_wrap (n := 3) (M' := M_23) (v := r_22) (As := [.ref (X.2.2 0), .int r_2, .int x13_8]) (rest := []) B T N9 hw (c_L_remove l hfl _ X fu r_2 x13_8 M (r_22, M_23) h_21 _) km_L_177 kt_L_remove ki_L kc_L_remove ⟨by decide +kernel, by decide +kernel, by decide +kernel⟩ rfl hl.1 rfl rfl ⟨(Nat.le_of_ble_eq_true rfl), (Nat.le_of_ble_eq_true rfl)⟩ (Nat.le_of_ble_eq_true rfl) ⟨(Nat.le_of_ble_eq_true rfl), (Nat.le_of_ble_eq_true rfl)⟩ dL_writes_705 rfl (fun H locs hw => ?_)
          refine W.widen (k := 2) (n := 12) (by omega) (by omega) ?_
          refine lv_sipush (v := (-7100)) hx hb dL_writes_708 (by decide) ?_
          refine lv_icmp_ne (tgt := 731) hx hb dL_writes_711 (by decide) (fun c_24 => ?_) (fun c_24 => ?_)
          · have hf := ie_e hf c_24
            refine lv_iconst (v := 0) hx hb dL_writes_731 (by decide) ?_
            refine W.widen (k := 52) (n := 312) (by omega) (by omega) ?_
            cases hf
            subst hQ
            exact q_zret B hr hlk rfl hw rfl rfl dL_writes_732
          · have hf := it_e hf c_24
            refine lv_aload_n hx hb dL_writes_714 rfl (lv_at hl 1 rfl) ?_
            refine lv_bipush (v := 6) hx hb dL_writes_715 (by decide) ?_
            refine lv_iconst (v := 0) hx hb dL_writes_717 (by decide) ?_
            obtain ⟨r_26, M_27, h_25, hf⟩ := bm_e hf
            refine w_wrap (n := 3) (M' := M_27) (v := r_26) (As := [.ref (X.2.2 0), .int 6, .int 0]) (rest := []) B T N9 hw (c_L_remove l hfl _ X fu 6 0 M_23 (r_26, M_27) h_25 _) km_L_177 kt_L_remove ki_L kc_L_remove ⟨by decide +kernel, by decide +kernel, by decide +kernel⟩ rfl hl.1 rfl rfl ⟨(Nat.le_of_ble_eq_true rfl), (Nat.le_of_ble_eq_true rfl)⟩ (Nat.le_of_ble_eq_true rfl) ⟨(Nat.le_of_ble_eq_true rfl), (Nat.le_of_ble_eq_true rfl)⟩ dL_writes_718 rfl (fun H locs hw => ?_)
            refine W.widen (k := 4) (n := 24) (by omega) (by omega) ?_
            refine lv_sipush (v := (-7100)) hx hb dL_writes_721 (by decide) ?_
            refine lv_icmp_ne (tgt := 731) hx hb dL_writes_724 (by decide) (fun c_28 => ?_) (fun c_28 => ?_)
            · have hf := ie_e hf c_28
              refine lv_iconst (v := 0) hx hb dL_writes_731 (by decide) ?_
              refine W.widen (k := 52) (n := 312) (by omega) (by omega) ?_
              cases hf
              subst hQ
              exact q_zret B hr hlk rfl hw rfl rfl dL_writes_732
            · have hf := it_e hf c_28
              refine lv_iconst (v := 1) hx hb dL_writes_727 (by decide) ?_
              refine lv_goto (tgt := 732) hx hb dL_writes_728 (by decide) ?_
              refine W.widen (k := 52) (n := 312) (by omega) (by omega) ?_
              cases hf
              subst hQ
              exact q_zret B hr hlk rfl hw rfl rfl dL_writes_732
      · have hf := ie_e hf c_11
        refine lv_iload_n hx hb dL_writes_467 rfl (lv_at hl 4 rfl) ?_
        refine lv_bipush (v := 10) hx hb dL_writes_468 (by decide) ?_
        refine lv_ishr hx hb dL_writes_470 ?_
        refine lv_iconst (v := 4) hx hb dL_writes_471 (by decide) ?_
        obtain ⟨r_30, h_29, hf⟩ := bd_e hf
        refine q_callSi (M' := M) (As := [.int (p3 >>> (10 &&& 31)), .int 4]) (rest := []) B hw (c_L_low l _ X fu (p3 >>> (10 &&& 31)) 4 M r_30 h_29 _) cs_L_130 rfl hl.1 rfl rfl ⟨(Nat.le_of_ble_eq_true rfl), (Nat.le_of_ble_eq_true rfl)⟩ (Nat.le_of_ble_eq_true rfl) ⟨(Nat.le_of_ble_eq_true rfl), (Nat.le_of_ble_eq_true rfl)⟩ dL_writes_472 rfl (fun H locs hw => ?_)
        refine lv_istore (lv' := [(15, .int r_30), (14, .int r_10), (0, .ref (X.2.2 0)), (1, .int p1), (2, .int p2), (3, .int p3), (4, .ref (X.2.2 142)), (5, .ref (X.2.2 143)), (6, .ref (X.2.2 144)), (7, .ref (X.2.2 145)), (8, .ref (X.2.2 147)), (9, .ref (X.2.2 148)), (11, .ref (X.2.2 152)), (12, .int r_2), (13, .int x13_8)]) hx hb dL_writes_475 hl (by decide) rfl (fun ls hl => ?_)
        refine lv_iload_n hx hb dL_writes_477 rfl (lv_at hl 4 rfl) ?_
        refine lv_bipush (v := 9) hx hb dL_writes_478 (by decide) ?_
        refine lv_ishr hx hb dL_writes_480 ?_
        obtain ⟨r_32, h_31, hf⟩ := bd_e hf
        refine q_callSi (M' := M) (As := [.int (p2 >>> (9 &&& 31))]) (rest := []) B hw (c_L_cellBy l _ X fu (p2 >>> (9 &&& 31)) M r_32 h_31 _) cs_L_133 rfl hl.1 rfl rfl ⟨(Nat.le_of_ble_eq_true rfl), (Nat.le_of_ble_eq_true rfl)⟩ (Nat.le_of_ble_eq_true rfl) ⟨(Nat.le_of_ble_eq_true rfl), (Nat.le_of_ble_eq_true rfl)⟩ dL_writes_481 rfl (fun H locs hw => ?_)
        refine lv_istore (lv' := [(16, .int r_32), (15, .int r_30), (14, .int r_10), (0, .ref (X.2.2 0)), (1, .int p1), (2, .int p2), (3, .int p3), (4, .ref (X.2.2 142)), (5, .ref (X.2.2 143)), (6, .ref (X.2.2 144)), (7, .ref (X.2.2 145)), (8, .ref (X.2.2 147)), (9, .ref (X.2.2 148)), (11, .ref (X.2.2 152)), (12, .int r_2), (13, .int x13_8)]) hx hb dL_writes_484 hl (by decide) rfl (fun ls hl => ?_)
        refine lv_aload_n hx hb dL_writes_486 rfl (lv_at hl 3 rfl) ?_
        refine lv_bipush (v := 6) hx hb dL_writes_487 (by decide) ?_
        refine lv_iload hx hb dL_writes_489 (lv_at hl 15 rfl) ?_
        refine lv_iload hx hb dL_writes_491 (lv_at hl 1 rfl) ?_
        refine lv_iload hx hb dL_writes_493 (lv_at hl 0 rfl) ?_
        obtain ⟨r_34, M_35, h_33, hf⟩ := bm_e hf
        refine w_wrap (n := 5) (M' := M_35) (v := r_34) (As := [.ref (X.2.2 0), .int 6, .int x13_8, .int r_30, .int r_32]) (rest := []) B T N9 hw (c_L_change l hfl _ X fu 6 x13_8 r_30 r_32 M (r_34, M_35) h_33 _) km_L_162 kt_L_change ki_L kc_L_change ⟨by decide +kernel, by decide +kernel, by decide +kernel⟩ rfl hl.1 rfl rfl ⟨(Nat.le_of_ble_eq_true rfl), (Nat.le_of_ble_eq_true rfl)⟩ (Nat.le_of_ble_eq_true rfl) ⟨(Nat.le_of_ble_eq_true rfl), (Nat.le_of_ble_eq_true rfl)⟩ dL_writes_495 rfl (fun H locs hw => ?_)
        refine W.widen (k := 4) (n := 24) (by omega) (by omega) ?_
        refine lv_sipush (v := (-7100)) hx hb dL_writes_498 (by decide) ?_
        refine lv_icmp_ne (tgt := 554) hx hb dL_writes_501 (by decide) (fun c_36 => ?_) (fun c_36 => ?_)
        · have hf := ie_e hf c_36
          refine lv_iconst (v := 0) hx hb dL_writes_554 (by decide) ?_
          refine W.widen (k := 52) (n := 312) (by omega) (by omega) ?_
          cases hf
          subst hQ
          exact q_zret B hr hlk rfl hw rfl rfl dL_writes_555
        · have hf := it_e hf c_36
          refine lv_aload_n hx hb dL_writes_504 rfl (lv_at hl 3 rfl) ?_
          refine lv_iload hx hb dL_writes_505 (lv_at hl 14 rfl) ?_
          refine lv_iload hx hb dL_writes_507 (lv_at hl 15 rfl) ?_
          refine lv_iconst (v := 4) hx hb dL_writes_509 (by decide) ?_
          refine lv_iload hx hb dL_writes_510 (lv_at hl 0 rfl) ?_
          obtain ⟨r_38, M_39, h_37, hf⟩ := bm_e hf
          refine w_wrap (n := 5) (M' := M_39) (v := r_38) (As := [.ref (X.2.2 0), .int r_2, .int x13_8, .int 4, .int r_32]) (rest := []) B T N9 hw (c_L_change l hfl _ X fu r_2 x13_8 4 r_32 M_35 (r_38, M_39) h_37 _) km_L_162 kt_L_change ki_L kc_L_change ⟨by decide +kernel, by decide +kernel, by decide +kernel⟩ rfl hl.1 rfl rfl ⟨(Nat.le_of_ble_eq_true rfl), (Nat.le_of_ble_eq_true rfl)⟩ (Nat.le_of_ble_eq_true rfl) ⟨(Nat.le_of_ble_eq_true rfl), (Nat.le_of_ble_eq_true rfl)⟩ dL_writes_512 rfl (fun H locs hw => ?_)
          refine W.widen (k := 8) (n := 48) (by omega) (by omega) ?_
          refine lv_sipush (v := (-7100)) hx hb dL_writes_515 (by decide) ?_
          refine lv_icmp_ne (tgt := 554) hx hb dL_writes_518 (by decide) (fun c_40 => ?_) (fun c_40 => ?_)
          · have hf := ie_e hf c_40
            refine lv_iconst (v := 0) hx hb dL_writes_554 (by decide) ?_
            refine W.widen (k := 52) (n := 312) (by omega) (by omega) ?_
            cases hf
            subst hQ
            exact q_zret B hr hlk rfl hw rfl rfl dL_writes_555
          · have hf := it_e hf c_40
            refine lv_aload_n hx hb dL_writes_521 rfl (lv_at hl 3 rfl) ?_
            refine lv_iload hx hb dL_writes_522 (lv_at hl 14 rfl) ?_
            refine lv_iload hx hb dL_writes_524 (lv_at hl 15 rfl) ?_
            refine lv_iconst (v := (-1)) hx hb dL_writes_526 (by decide) ?_
            refine lv_iload hx hb dL_writes_527 (lv_at hl 0 rfl) ?_
            obtain ⟨r_42, M_43, h_41, hf⟩ := bm_e hf
            refine w_wrap (n := 5) (M' := M_43) (v := r_42) (As := [.ref (X.2.2 0), .int r_2, .int x13_8, .int (-1), .int r_32]) (rest := []) B T N9 hw (c_L_change l hfl _ X fu r_2 x13_8 (-1) r_32 M_39 (r_42, M_43) h_41 _) km_L_162 kt_L_change ki_L kc_L_change ⟨by decide +kernel, by decide +kernel, by decide +kernel⟩ rfl hl.1 rfl rfl ⟨(Nat.le_of_ble_eq_true rfl), (Nat.le_of_ble_eq_true rfl)⟩ (Nat.le_of_ble_eq_true rfl) ⟨(Nat.le_of_ble_eq_true rfl), (Nat.le_of_ble_eq_true rfl)⟩ dL_writes_529 rfl (fun H locs hw => ?_)
            refine W.widen (k := 12) (n := 72) (by omega) (by omega) ?_
            refine lv_sipush (v := (-7100)) hx hb dL_writes_532 (by decide) ?_
            refine lv_icmp_ne (tgt := 554) hx hb dL_writes_535 (by decide) (fun c_44 => ?_) (fun c_44 => ?_)
            · have hf := ie_e hf c_44
              refine lv_iconst (v := 0) hx hb dL_writes_554 (by decide) ?_
              refine W.widen (k := 52) (n := 312) (by omega) (by omega) ?_
              cases hf
              subst hQ
              exact q_zret B hr hlk rfl hw rfl rfl dL_writes_555
            · have hf := it_e hf c_44
              refine lv_aload_n hx hb dL_writes_538 rfl (lv_at hl 3 rfl) ?_
              refine lv_iload hx hb dL_writes_539 (lv_at hl 14 rfl) ?_
              refine lv_iconst (v := (-1)) hx hb dL_writes_541 (by decide) ?_
              refine lv_iconst (v := 1) hx hb dL_writes_542 (by decide) ?_
              refine lv_iload hx hb dL_writes_543 (lv_at hl 0 rfl) ?_
              obtain ⟨r_46, M_47, h_45, hf⟩ := bm_e hf
              refine w_wrap (n := 5) (M' := M_47) (v := r_46) (As := [.ref (X.2.2 0), .int r_2, .int (-1), .int 1, .int r_32]) (rest := []) B T N9 hw (c_L_change l hfl _ X fu r_2 (-1) 1 r_32 M_43 (r_46, M_47) h_45 _) km_L_162 kt_L_change ki_L kc_L_change ⟨by decide +kernel, by decide +kernel, by decide +kernel⟩ rfl hl.1 rfl rfl ⟨(Nat.le_of_ble_eq_true rfl), (Nat.le_of_ble_eq_true rfl)⟩ (Nat.le_of_ble_eq_true rfl) ⟨(Nat.le_of_ble_eq_true rfl), (Nat.le_of_ble_eq_true rfl)⟩ dL_writes_545 rfl (fun H locs hw => ?_)
              refine W.widen (k := 16) (n := 96) (by omega) (by omega) ?_
              refine lv_sipush (v := (-7100)) hx hb dL_writes_548 (by decide) ?_
              refine lv_icmp_eq (tgt := 556) hx hb dL_writes_551 (by decide) (fun c_48 => ?_) (fun c_48 => ?_)
              · have hf := it_e hf c_48
                refine lv_aload hx hb dL_writes_556 (lv_at hl 7 rfl) ?_
                refine lv_aload hx hb dL_writes_558 (lv_at hl 8 rfl) ?_
                refine lv_iload hx hb dL_writes_560 (lv_at hl 14 rfl) ?_
                refine lv_iload hx hb dL_writes_562 (lv_at hl 15 rfl) ?_
                refine lv_iload hx hb dL_writes_564 (lv_at hl 1 rfl) ?_
                refine lv_iload hx hb dL_writes_566 (lv_at hl 0 rfl) ?_
                obtain ⟨r_50, h_49, hf⟩ := bd_e hf
                refine q_callSi (M' := M_47) (As := [.ref (X.2.2 142), .ref (X.2.2 143), .int r_2, .int x13_8, .int r_30, .int r_32]) (rest := []) B hw (c_L_changeable l _ X fu r_2 x13_8 r_30 r_32 M_47 r_50 h_49 _) cs_L_165 rfl hl.1 rfl rfl ⟨(Nat.le_of_ble_eq_true rfl), (Nat.le_of_ble_eq_true rfl)⟩ (Nat.le_of_ble_eq_true rfl) ⟨(Nat.le_of_ble_eq_true rfl), (Nat.le_of_ble_eq_true rfl)⟩ dL_writes_568 rfl (fun H locs hw => ?_)
                refine lv_istore (lv' := [(17, .int r_50), (16, .int r_32), (15, .int r_30), (14, .int r_10), (0, .ref (X.2.2 0)), (1, .int p1), (2, .int p2), (3, .int p3), (4, .ref (X.2.2 142)), (5, .ref (X.2.2 143)), (6, .ref (X.2.2 144)), (7, .ref (X.2.2 145)), (8, .ref (X.2.2 147)), (9, .ref (X.2.2 148)), (11, .ref (X.2.2 152)), (12, .int r_2), (13, .int x13_8)]) hx hb dL_writes_571 hl (by decide) rfl (fun ls hl => ?_)
                refine lv_iload hx hb dL_writes_573 (lv_at hl 0 rfl) ?_
                refine lv_if_eq (tgt := 601) hx hb dL_writes_575 (by decide) (fun c_51 => ?_) (fun c_51 => ?_)
                · have hf := it_e hf c_51
                  refine lv_aload hx hb dL_writes_601 (lv_at hl 8 rfl) ?_
                  refine lv_bipush (v := 10) hx hb dL_writes_603 (by decide) ?_
                  refine lv_iload hx hb dL_writes_605 (lv_at hl 15 rfl) ?_
                  refine lv_imul hx hb dL_writes_607 ?_
                  refine lv_iload hx hb dL_writes_608 (lv_at hl 3 rfl) ?_
                  refine lv_iadd hx hb dL_writes_610 ?_
                  obtain ⟨g_52, hf⟩ := grd_e hf
                  refine w_lald B hw (i := 142) (kw142 _) g_52 dL_writes_611 ?_
                  refine lv_iload hx hb dL_writes_612 (lv_at hl 2 rfl) ?_
                  refine q_callSi (M' := M_47) (As := [.long (lg (M_47 142) ((10 * r_2) + r_10).toNatClampNeg), .int r_30]) (rest := []) B hw (c_L_at l _ X (lg (M_47 142) ((10 * r_2) + r_10).toNatClampNeg) r_30 _ rfl M_47 _) cs_L_169 rfl hl.1 rfl rfl ⟨(Nat.le_of_ble_eq_true rfl), (Nat.le_of_ble_eq_true rfl)⟩ (Nat.le_of_ble_eq_true rfl) ⟨(Nat.le_of_ble_eq_true rfl), (Nat.le_of_ble_eq_true rfl)⟩ dL_writes_614 rfl (fun H locs hw => ?_)
                  refine r_topn hf (fun x18_54 hf => ?_)
                  refine lv_istore (lv' := [(18, .int x18_54), (17, .int r_50), (16, .int r_32), (15, .int r_30), (14, .int r_10), (0, .ref (X.2.2 0)), (1, .int p1), (2, .int p2), (3, .int p3), (4, .ref (X.2.2 142)), (5, .ref (X.2.2 143)), (6, .ref (X.2.2 144)), (7, .ref (X.2.2 145)), (8, .ref (X.2.2 147)), (9, .ref (X.2.2 148)), (11, .ref (X.2.2 152)), (12, .int r_2), (13, .int x13_8)]) hx hb dL_writes_617 hl (by decide) rfl (fun ls hl => ?_)
                  refine lv_aload hx hb dL_writes_619 (lv_at hl 9 rfl) ?_
                  refine lv_bipush (v := 10) hx hb dL_writes_621 (by decide) ?_
                  refine lv_iload hx hb dL_writes_623 (lv_at hl 16 rfl) ?_
                  refine lv_imul hx hb dL_writes_625 ?_
                  refine lv_iload hx hb dL_writes_626 (lv_at hl 4 rfl) ?_
                  refine lv_iadd hx hb dL_writes_628 ?_
                  refine lv_aload hx hb dL_writes_629 (lv_at hl 9 rfl) ?_
                  refine lv_bipush (v := 10) hx hb dL_writes_631 (by decide) ?_
                  refine lv_iload hx hb dL_writes_633 (lv_at hl 16 rfl) ?_
                  refine lv_imul hx hb dL_writes_635 ?_
                  refine lv_iload hx hb dL_writes_636 (lv_at hl 4 rfl) ?_
                  refine lv_iadd hx hb dL_writes_638 ?_
                  refine w_lald B hw (i := 142) (kw142 _) g_52 dL_writes_639 ?_
                  refine lv_iload hx hb dL_writes_640 (lv_at hl 3 rfl) ?_
                  refine lv_aload hx hb dL_writes_642 (lv_at hl 15 rfl) ?_
                  refine lv_iload hx hb dL_writes_644 (lv_at hl 16 rfl) ?_
                  refine lv_iload hx hb dL_writes_646 (lv_at hl 3 rfl) ?_
                  refine lv_iload hx hb dL_writes_648 (lv_at hl 2 rfl) ?_
                  obtain ⟨r_56, M_57, h_55, hf⟩ := bm_e hf
                  refine q_callSi (M' := M_57) (As := [.ref (X.2.2 152), .int r_2, .int r_30, .int r_32]) (rest := [.int r_30, .long (lg (M_47 142) ((10 * r_2) + r_10).toNatClampNeg), .int ((10 * r_2) + r_10), .ref (X.2.2 142)]) B hw (c_L_kept l _ X fu r_2 r_30 r_32 M_47 (r_56, M_57) h_55 _) cs_L_146 rfl hl.1 rfl rfl ⟨(Nat.le_of_ble_eq_true rfl), (Nat.le_of_ble_eq_true rfl)⟩ (Nat.le_of_ble_eq_true rfl) ⟨(Nat.le_of_ble_eq_true rfl), (Nat.le_of_ble_eq_true rfl)⟩ dL_writes_650 rfl (fun H locs hw => ?_)
                  refine q_callSl (M' := M_57) (As := [.long (lg (M_47 142) ((10 * r_2) + r_10).toNatClampNeg), .int r_30, .int r_56]) (rest := [.int ((10 * r_2) + r_10), .ref (X.2.2 142)]) B hw (c_L_with l _ X (lg (M_47 142) ((10 * r_2) + r_10).toNatClampNeg) r_30 r_56 _ rfl M_57 _) cs_L_173 rfl hl.1 rfl rfl ⟨(Nat.le_of_ble_eq_true rfl), (Nat.le_of_ble_eq_true rfl)⟩ (Nat.le_of_ble_eq_true rfl) ⟨(Nat.le_of_ble_eq_true rfl), (Nat.le_of_ble_eq_true rfl)⟩ dL_writes_653 rfl (fun H locs hw => ?_)
                  refine w_last B hw (i := 142) (kw142 _) g_52 dL_writes_656 hf (fun M_59 H locs hw hf => ?_)
                  refine lv_aload hx hb dL_writes_657 (lv_at hl 13 rfl) ?_
                  refine lv_aload hx hb dL_writes_659 (lv_at hl 14 rfl) ?_
                  refine lv_aload hx hb dL_writes_661 (lv_at hl 11 rfl) ?_
                  refine lv_aload hx hb dL_writes_663 (lv_at hl 12 rfl) ?_
                  refine lv_aload hx hb dL_writes_665 (lv_at hl 15 rfl) ?_
                  refine lv_iload hx hb dL_writes_667 (lv_at hl 16 rfl) ?_
                  obtain ⟨M_61, h_60, hf⟩ := bd_e hf
                  refine q_callSv (M' := M_61) (As := [.ref (X.2.2 147), .ref (X.2.2 148), .ref (X.2.2 144), .ref (X.2.2 145), .ref (X.2.2 152), .int r_2]) (rest := []) B hw (c_L_written l _ X fu r_2 M_59 M_61 h_60 _) cs_L_158 rfl hl.1 rfl rfl ⟨(Nat.le_of_ble_eq_true rfl), (Nat.le_of_ble_eq_true rfl)⟩ (Nat.le_of_ble_eq_true rfl) ⟨(Nat.le_of_ble_eq_true rfl), (Nat.le_of_ble_eq_true rfl)⟩ dL_writes_669 rfl (fun H locs hw => ?_)
                  refine lv_aload_n hx hb dL_writes_672 rfl (lv_at hl 5 rfl) ?_
                  refine lv_iload hx hb dL_writes_673 (lv_at hl 16 rfl) ?_
                  refine lv_iload hx hb dL_writes_675 (lv_at hl 17 rfl) ?_
                  refine lv_iload hx hb dL_writes_677 (lv_at hl 3 rfl) ?_
                  refine lv_iload hx hb dL_writes_679 (lv_at hl 2 rfl) ?_
                  obtain ⟨r_63, M_64, h_62, hf⟩ := bm_e hf
                  refine w_wrap (n := 5) (M' := M_64) (v := r_63) (As := [.ref (X.2.2 0), .int r_2, .int x13_8, .int r_30, .int r_32]) (rest := []) B T N9 hw (c_L_change l hfl _ X fu r_2 x13_8 r_30 r_32 M_61 (r_63, M_64) h_62 _) km_L_162 kt_L_change ki_L kc_L_change ⟨by decide +kernel, by decide +kernel, by decide +kernel⟩ rfl hl.1 rfl rfl ⟨(Nat.le_of_ble_eq_true rfl), (Nat.le_of_ble_eq_true rfl)⟩ (Nat.le_of_ble_eq_true rfl) ⟨(Nat.le_of_ble_eq_true rfl), (Nat.le_of_ble_eq_true rfl)⟩ dL_writes_681 rfl (fun H locs hw => ?_)
                  refine W.widen (k := 20) (n := 120) (by omega) (by omega) ?_
                  refine lv_iload hx hb dL_writes_684 (lv_at hl 0 rfl) ?_
                  refine lv_icmp_ne (tgt := 693) hx hb dL_writes_686 (by decide) (fun c_65 => ?_) (fun c_65 => ?_)
                  · have hf := ie_e hf c_65
                    refine lv_iconst (v := 0) hx hb dL_writes_693 (by decide) ?_
                    refine W.widen (k := 52) (n := 312) (by omega) (by omega) ?_
                    cases hf
                    subst hQ
                    exact q_zret B hr hlk rfl hw rfl rfl dL_writes_694
                  · have hf := it_e hf c_65
                    refine lv_iconst (v := 1) hx hb dL_writes_689 (by decide) ?_
                    refine lv_goto (tgt := 694) hx hb dL_writes_690 (by decide) ?_
                    refine W.widen (k := 52) (n := 312) (by omega) (by omega) ?_
                    cases hf
                    subst hQ
                    exact q_zret B hr hlk rfl hw rfl rfl dL_writes_694
                · have hf := ie_e hf c_51
                  refine lv_aload_n hx hb dL_writes_578 rfl (lv_at hl 4 rfl) ?_
                  refine lv_iload hx hb dL_writes_579 (lv_at hl 15 rfl) ?_
                  refine lv_iload hx hb dL_writes_581 (lv_at hl 16 rfl) ?_
                  refine lv_iload hx hb dL_writes_583 (lv_at hl 2 rfl) ?_
                  refine lv_iload hx hb dL_writes_585 (lv_at hl 1 rfl) ?_
                  obtain ⟨r_67, M_68, h_66, hf⟩ := bm_e hf
                  refine w_wrap (n := 5) (M' := M_68) (v := r_67) (As := [.ref (X.2.2 0), .int r_2, .int x13_8, .int r_30, .int r_32]) (rest := []) B T N9 hw (c_L_change l hfl _ X fu r_2 x13_8 r_30 r_32 M_47 (r_67, M_68) h_66 _) km_L_162 kt_L_change ki_L kc_L_change ⟨by decide +kernel, by decide +kernel, by decide +kernel⟩ rfl hl.1 rfl rfl ⟨(Nat.le_of_ble_eq_true rfl), (Nat.le_of_ble_eq_true rfl)⟩ (Nat.le_of_ble_eq_true rfl) ⟨(Nat.le_of_ble_eq_true rfl), (Nat.le_of_ble_eq_true rfl)⟩ dL_writes_587 rfl (fun H locs hw => ?_)
                  refine W.widen (k := 20) (n := 120) (by omega) (by omega) ?_
                  refine lv_iload hx hb dL_writes_590 (lv_at hl 0 rfl) ?_
                  refine lv_icmp_ne (tgt := 599) hx hb dL_writes_592 (by decide) (fun c_69 => ?_) (fun c_69 => ?_)
                  · have hf := ie_e hf c_69
                    refine lv_iconst (v := 0) hx hb dL_writes_599 (by decide) ?_
                    refine W.widen (k := 52) (n := 312) (by omega) (by omega) ?_
                    cases hf
                    subst hQ
                    exact q_zret B hr hlk rfl hw rfl rfl dL_writes_600
                  · have hf := it_e hf c_69
                    refine lv_iconst (v := 1) hx hb dL_writes_595 (by decide) ?_
                    refine lv_goto (tgt := 600) hx hb dL_writes_596 (by decide) ?_
                    refine W.widen (k := 52) (n := 312) (by omega) (by omega) ?_
                    cases hf
                    subst hQ
                    exact q_zret B hr hlk rfl hw rfl rfl dL_writes_600
              · have hf := ie_e hf c_48
                refine lv_iconst (v := 0) hx hb dL_writes_554 (by decide) ?_
                refine W.widen (k := 52) (n := 312) (by omega) (by omega) ?_
                cases hf
                subst hQ
                exact q_zret B hr hlk rfl hw rfl rfl dL_writes_555
    refine lv_if_le (tgt := 448) hx hb dL_writes_414 (by decide) (fun c_70 => ?_) (fun c_70 => ?_)
    · have hf := it_e hf c_70
      exact J448_7 r_4 _ _ _ hw (lv_sub hl [2, 3, 4, 5, 6, 7, 8, 9, 10, 11, 13, 1, 0] rfl) hf
    · have hf := ie_e hf c_70
      refine lv_iload_n hx hb dL_writes_417 rfl (lv_at hl 5 rfl) ?_
      refine lv_sipush (v := 768) hx hb dL_writes_418 (by decide) ?_
      refine lv_iand hx hb dL_writes_421 ?_
      refine lv_if_le (tgt := 448) hx hb dL_writes_422 (by decide) (fun c_71 => ?_) (fun c_71 => ?_)
      · have hf := it_e hf c_71
        exact J448_7 r_4 _ _ _ hw (lv_sub hl [2, 3, 4, 5, 6, 7, 8, 9, 10, 11, 13, 1, 0] rfl) hf
      · have hf := ie_e hf c_71
        refine lv_aload hx hb dL_writes_425 (lv_at hl 6 rfl) ?_
        refine lv_bipush (v := 10) hx hb dL_writes_427 (by decide) ?_
        refine lv_iload hx hb dL_writes_429 (lv_at hl 1 rfl) ?_
        refine lv_imul hx hb dL_writes_431 ?_
        refine lv_iload_n hx hb dL_writes_432 rfl (lv_at hl 5 rfl) ?_
        refine lv_aload hx hb dL_writes_433 (lv_at hl 7 rfl) ?_
        refine lv_iload hx hb dL_writes_435 (lv_at hl 1 rfl) ?_
        refine w_iald B hw (i := 143) (kw143 _) g_6 dL_writes_437 ?_
        obtain ⟨r_73, h_72, hf⟩ := bd_e hf
        refine q_callSi (M' := M) (As := [.int p3, .int (M 143 r_2.toNatClampNeg)]) (rest := [.int (10 * r_2), .ref (X.2.2 142)]) B hw (c_L_low l _ X fu p3 (M 143 r_2.toNatClampNeg) M r_73 h_72 _) cs_L_130 rfl hl.1 rfl rfl ⟨(Nat.le_of_ble_eq_true rfl), (Nat.le_of_ble_eq_true rfl)⟩ (Nat.le_of_ble_eq_true rfl) ⟨(Nat.le_of_ble_eq_true rfl), (Nat.le_of_ble_eq_true rfl)⟩ dL_writes_438 rfl (fun H locs hw => ?_)
        refine lv_iadd hx hb dL_writes_441 ?_
        obtain ⟨g_74, hf⟩ := grd_e hf
        refine w_lald B hw (i := 142) (kw142 _) g_74 dL_writes_442 ?_
        refine q_callSi (M' := M) (As := [.long (lg (M 142) ((10 * r_2) + r_73).toNatClampNeg)]) (rest := []) B hw (c_L_markOf l _ X (lg (M 142) ((10 * r_2) + r_73).toNatClampNeg) _ rfl M _) cs_L_105 rfl hl.1 rfl rfl ⟨(Nat.le_of_ble_eq_true rfl), (Nat.le_of_ble_eq_true rfl)⟩ (Nat.le_of_ble_eq_true rfl) ⟨(Nat.le_of_ble_eq_true rfl), (Nat.le_of_ble_eq_true rfl)⟩ dL_writes_443 rfl (fun H locs hw => ?_)
        refine r_topn hf (fun x13_76 hf => ?_)
        refine lv_istore (lv' := [(13, .int x13_76), (12, .int r_2), (0, .ref (X.2.2 0)), (1, .int p1), (2, .int p2), (3, .int p3), (4, .ref (X.2.2 142)), (5, .ref (X.2.2 143)), (6, .ref (X.2.2 144)), (7, .ref (X.2.2 145)), (8, .ref (X.2.2 147)), (9, .ref (X.2.2 148)), (10, .ref (X.2.2 153)), (11, .ref (X.2.2 152))]) hx hb dL_writes_446 hl (by decide) rfl (fun ls hl => ?_)
        exact J448_7 x13_76 _ _ _ hw (lv_sub hl [2, 3, 4, 5, 6, 7, 8, 9, 10, 11, 13, 1, 0] rfl) hf
  · have hf := ie_e hf c_5
    refine lv_iload hx hb dL_writes_21 (lv_at hl 1 rfl) ?_
    refine lv_iconst (v := 1) hx hb dL_writes_23 (by decide) ?_
    refine jn_e hf (fun kk => ∀ (v_78 : Int32) (H : Heap) (locs : List Loc) (ls : Array Slot), HW (LW ex) X M s H locs → lv_has ls 20 [(0, .ref (X.2.2 0)), (2, .int p2), (3, .int p3), (4, .ref (X.2.2 142)), (5, .ref (X.2.2 143)), (6, .ref (X.2.2 144)), (7, .ref (X.2.2 145)), (8, .ref (X.2.2 147)), (9, .ref (X.2.2 148)), (10, .ref (X.2.2 153)), (11, .ref (X.2.2 152)), (12, .int r_2)] → kk v_78 = some rs → W p l e rm_L_writes s m args below meth c H locs 0 0 Q (F0 m 69 ls [.int v_78])) ?_ (fun k69_77 J69_77 hf => ?_)
    · intro v_78 H locs ls hw hl hf
      refine lv_istore (lv' := [(14, .int v_78), (0, .ref (X.2.2 0)), (2, .int p2), (3, .int p3), (4, .ref (X.2.2 142)), (5, .ref (X.2.2 143)), (6, .ref (X.2.2 144)), (7, .ref (X.2.2 145)), (8, .ref (X.2.2 147)), (9, .ref (X.2.2 148)), (10, .ref (X.2.2 153)), (11, .ref (X.2.2 152)), (12, .int r_2)]) hx hb dL_writes_69 hl (by decide) rfl (fun ls hl => ?_)
      refine lv_iload_n hx hb dL_writes_71 rfl (lv_at hl 2 rfl) ?_
      refine lv_bipush (v := 12) hx hb dL_writes_72 (by decide) ?_
      refine lv_ishr hx hb dL_writes_74 ?_
      obtain ⟨r_80, h_79, hf⟩ := bd_e hf
      refine q_callSi (M' := M) (As := [.int (p2 >>> (12 &&& 31))]) (rest := []) B hw (c_L_cellBy l _ X fu (p2 >>> (12 &&& 31)) M r_80 h_79 _) cs_L_133 rfl hl.1 rfl rfl ⟨(Nat.le_of_ble_eq_true rfl), (Nat.le_of_ble_eq_true rfl)⟩ (Nat.le_of_ble_eq_true rfl) ⟨(Nat.le_of_ble_eq_true rfl), (Nat.le_of_ble_eq_true rfl)⟩ dL_writes_75 rfl (fun H locs hw => ?_)
      refine lv_istore (lv' := [(15, .int r_80), (14, .int v_78), (0, .ref (X.2.2 0)), (2, .int p2), (3, .int p3), (4, .ref (X.2.2 142)), (5, .ref (X.2.2 143)), (6, .ref (X.2.2 144)), (7, .ref (X.2.2 145)), (8, .ref (X.2.2 147)), (9, .ref (X.2.2 148)), (10, .ref (X.2.2 153)), (11, .ref (X.2.2 152)), (12, .int r_2)]) hx hb dL_writes_78 hl (by decide) rfl (fun ls hl => ?_)
      refine lv_iload hx hb dL_writes_80 (lv_at hl 13 rfl) ?_
      refine lv_iconst (v := 2) hx hb dL_writes_82 (by decide) ?_
      refine lv_idiv hx hb dL_writes_83 (by decide) ?_
      refine lv_iconst (v := 1) hx hb dL_writes_84 (by decide) ?_
      refine jn_e hf (fun kk => ∀ (v_82 : Int32) (H : Heap) (locs : List Loc) (ls : Array Slot), HW (LW ex) X M s H locs → lv_has ls 20 [(0, .ref (X.2.2 0)), (3, .int p3), (4, .ref (X.2.2 142)), (5, .ref (X.2.2 143)), (6, .ref (X.2.2 144)), (7, .ref (X.2.2 145)), (8, .ref (X.2.2 147)), (9, .ref (X.2.2 148)), (10, .ref (X.2.2 153)), (11, .ref (X.2.2 152)), (12, .int r_2), (14, .int v_78), (15, .int r_80)] → kk v_82 = some rs → W p l e rm_L_writes s m args below meth c H locs 0 0 Q (F0 m 110 ls [.int v_82])) ?_ (fun k110_81 J110_81 hf => ?_)
      · intro v_82 H locs ls hw hl hf
        refine lv_istore (lv' := [(16, .int v_82), (0, .ref (X.2.2 0)), (3, .int p3), (4, .ref (X.2.2 142)), (5, .ref (X.2.2 143)), (6, .ref (X.2.2 144)), (7, .ref (X.2.2 145)), (8, .ref (X.2.2 147)), (9, .ref (X.2.2 148)), (10, .ref (X.2.2 153)), (11, .ref (X.2.2 152)), (12, .int r_2), (14, .int v_78), (15, .int r_80)]) hx hb dL_writes_110 hl (by decide) rfl (fun ls hl => ?_)
        refine lv_iload hx hb dL_writes_112 (lv_at hl 11 rfl) ?_
        refine lv_iconst (v := 2) hx hb dL_writes_114 (by decide) ?_
        refine lv_idiv hx hb dL_writes_115 (by decide) ?_
        refine lv_iconst (v := 1) hx hb dL_writes_116 (by decide) ?_
        refine jn_e hf (fun kk => ∀ (v_84 : Int32) (H : Heap) (locs : List Loc) (ls : Array Slot), HW (LW ex) X M s H locs → lv_has ls 20 [(0, .ref (X.2.2 0)), (4, .ref (X.2.2 142)), (5, .ref (X.2.2 143)), (6, .ref (X.2.2 144)), (7, .ref (X.2.2 145)), (8, .ref (X.2.2 147)), (9, .ref (X.2.2 148)), (10, .ref (X.2.2 153)), (11, .ref (X.2.2 152)), (12, .int r_2), (14, .int v_78), (15, .int r_80), (16, .int v_82)] → kk v_84 = some rs → W p l e rm_L_writes s m args below meth c H locs 0 0 Q (F0 m 131 ls [.int v_84])) ?_ (fun k131_83 J131_83 hf => ?_)
        · intro v_84 H locs ls hw hl hf
          refine lv_istore (lv' := [(17, .int v_84), (0, .ref (X.2.2 0)), (4, .ref (X.2.2 142)), (5, .ref (X.2.2 143)), (6, .ref (X.2.2 144)), (7, .ref (X.2.2 145)), (8, .ref (X.2.2 147)), (9, .ref (X.2.2 148)), (10, .ref (X.2.2 153)), (11, .ref (X.2.2 152)), (12, .int r_2), (14, .int v_78), (15, .int r_80), (16, .int v_82)]) hx hb dL_writes_131 hl (by decide) rfl (fun ls hl => ?_)
          refine lv_aload_n hx hb dL_writes_133 rfl (lv_at hl 1 rfl) ?_
          refine lv_bipush (v := 6) hx hb dL_writes_134 (by decide) ?_
          refine lv_iconst (v := 0) hx hb dL_writes_136 (by decide) ?_
          refine lv_iconst (v := 0) hx hb dL_writes_137 (by decide) ?_
          refine lv_iconst (v := 0) hx hb dL_writes_138 (by decide) ?_
          refine lv_iconst (v := 0) hx hb dL_writes_139 (by decide) ?_
          obtain ⟨r_86, M_87, h_85, hf⟩ := bm_e hf
          refine w_wrap (n := 6) (M' := M_87) (v := r_86) (As := [.ref (X.2.2 0), .int 6, .int 0, .int 0, .int 0, .int 0]) (rest := []) B T N9 hw (c_L_add l hfl _ X fu 6 0 0 0 0 M (r_86, M_87) h_85 _) km_L_136 kt_L_add ki_L kc_L_add ⟨by decide +kernel, by decide +kernel, by decide +kernel⟩ rfl hl.1 rfl rfl ⟨(Nat.le_of_ble_eq_true rfl), (Nat.le_of_ble_eq_true rfl)⟩ (Nat.le_of_ble_eq_true rfl) ⟨(Nat.le_of_ble_eq_true rfl), (Nat.le_of_ble_eq_true rfl)⟩ dL_writes_140 rfl (fun H locs hw => ?_)
          refine W.widen (k := 3) (n := 18) (by omega) (by omega) ?_
          refine lv_sipush (v := (-7100)) hx hb dL_writes_143 (by decide) ?_
          refine lv_icmp_ne (tgt := 220) hx hb dL_writes_146 (by decide) (fun c_88 => ?_) (fun c_88 => ?_)
          · have hf := ie_e hf c_88
            refine lv_iconst (v := 0) hx hb dL_writes_220 (by decide) ?_
            refine W.widen (k := 52) (n := 312) (by omega) (by omega) ?_
            cases hf
            subst hQ
            exact q_zret B hr hlk rfl hw rfl rfl dL_writes_221
          · have hf := it_e hf c_88
            refine lv_aload_n hx hb dL_writes_149 rfl (lv_at hl 1 rfl) ?_
            refine lv_iconst (v := (-1)) hx hb dL_writes_150 (by decide) ?_
            refine lv_iconst (v := 0) hx hb dL_writes_151 (by decide) ?_
            refine lv_iconst (v := 0) hx hb dL_writes_152 (by decide) ?_
            refine lv_iconst (v := 0) hx hb dL_writes_153 (by decide) ?_
            refine lv_sipush (v := 9999) hx hb dL_writes_154 (by decide) ?_
            obtain ⟨r_90, M_91, h_89, hf⟩ := bm_e hf
            refine w_wrap (n := 6) (M' := M_91) (v := r_90) (As := [.ref (X.2.2 0), .int (-1), .int 0, .int 0, .int 0, .int 9999]) (rest := []) B T N9 hw (c_L_add l hfl _ X fu (-1) 0 0 0 9999 M_87 (r_90, M_91) h_89 _) km_L_136 kt_L_add ki_L kc_L_add ⟨by decide +kernel, by decide +kernel, by decide +kernel⟩ rfl hl.1 rfl rfl ⟨(Nat.le_of_ble_eq_true rfl), (Nat.le_of_ble_eq_true rfl)⟩ (Nat.le_of_ble_eq_true rfl) ⟨(Nat.le_of_ble_eq_true rfl), (Nat.le_of_ble_eq_true rfl)⟩ dL_writes_157 rfl (fun H locs hw => ?_)
            refine W.widen (k := 6) (n := 36) (by omega) (by omega) ?_
            refine lv_sipush (v := (-7100)) hx hb dL_writes_160 (by decide) ?_
            refine lv_icmp_ne (tgt := 220) hx hb dL_writes_163 (by decide) (fun c_92 => ?_) (fun c_92 => ?_)
            · have hf := ie_e hf c_92
              refine lv_iconst (v := 0) hx hb dL_writes_220 (by decide) ?_
              refine W.widen (k := 52) (n := 312) (by omega) (by omega) ?_
              cases hf
              subst hQ
              exact q_zret B hr hlk rfl hw rfl rfl dL_writes_221
            · have hf := it_e hf c_92
              refine lv_aload_n hx hb dL_writes_166 rfl (lv_at hl 1 rfl) ?_
              refine lv_iload hx hb dL_writes_167 (lv_at hl 10 rfl) ?_
              refine lv_iconst (v := 0) hx hb dL_writes_169 (by decide) ?_
              refine lv_sipush (v := 1000) hx hb dL_writes_170 (by decide) ?_
              refine lv_iconst (v := 0) hx hb dL_writes_173 (by decide) ?_
              refine lv_iconst (v := 0) hx hb dL_writes_174 (by decide) ?_
              obtain ⟨r_94, M_95, h_93, hf⟩ := bm_e hf
              refine w_wrap (n := 6) (M' := M_95) (v := r_94) (As := [.ref (X.2.2 0), .int r_2, .int 0, .int 1000, .int 0, .int 0]) (rest := []) B T N9 hw (c_L_add l hfl _ X fu r_2 0 1000 0 0 M_91 (r_94, M_95) h_93 _) km_L_136 kt_L_add ki_L kc_L_add ⟨by decide +kernel, by decide +kernel, by decide +kernel⟩ rfl hl.1 rfl rfl ⟨(Nat.le_of_ble_eq_true rfl), (Nat.le_of_ble_eq_true rfl)⟩ (Nat.le_of_ble_eq_true rfl) ⟨(Nat.le_of_ble_eq_true rfl), (Nat.le_of_ble_eq_true rfl)⟩ dL_writes_175 rfl (fun H locs hw => ?_)
              refine W.widen (k := 9) (n := 54) (by omega) (by omega) ?_
              refine lv_sipush (v := (-7200)) hx hb dL_writes_178 (by decide) ?_
              refine lv_icmp_ne (tgt := 220) hx hb dL_writes_181 (by decide) (fun c_96 => ?_) (fun c_96 => ?_)
              · have hf := ie_e hf c_96
                refine lv_iconst (v := 0) hx hb dL_writes_220 (by decide) ?_
                refine W.widen (k := 52) (n := 312) (by omega) (by omega) ?_
                cases hf
                subst hQ
                exact q_zret B hr hlk rfl hw rfl rfl dL_writes_221
              · have hf := it_e hf c_96
                refine lv_aload_n hx hb dL_writes_184 rfl (lv_at hl 1 rfl) ?_
                refine lv_iload hx hb dL_writes_185 (lv_at hl 10 rfl) ?_
                refine lv_sipush (v := 4999) hx hb dL_writes_187 (by decide) ?_
                refine lv_iconst (v := 0) hx hb dL_writes_190 (by decide) ?_
                refine lv_iconst (v := 0) hx hb dL_writes_191 (by decide) ?_
                refine lv_iconst (v := 0) hx hb dL_writes_192 (by decide) ?_
                obtain ⟨r_98, M_99, h_97, hf⟩ := bm_e hf
                refine w_wrap (n := 6) (M' := M_99) (v := r_98) (As := [.ref (X.2.2 0), .int r_2, .int 4999, .int 0, .int 0, .int 0]) (rest := []) B T N9 hw (c_L_add l hfl _ X fu r_2 4999 0 0 0 M_95 (r_98, M_99) h_97 _) km_L_136 kt_L_add ki_L kc_L_add ⟨by decide +kernel, by decide +kernel, by decide +kernel⟩ rfl hl.1 rfl rfl ⟨(Nat.le_of_ble_eq_true rfl), (Nat.le_of_ble_eq_true rfl)⟩ (Nat.le_of_ble_eq_true rfl) ⟨(Nat.le_of_ble_eq_true rfl), (Nat.le_of_ble_eq_true rfl)⟩ dL_writes_193 rfl (fun H locs hw => ?_)
                refine W.widen (k := 12) (n := 72) (by omega) (by omega) ?_
                refine lv_sipush (v := (-7200)) hx hb dL_writes_196 (by decide) ?_
                refine lv_icmp_ne (tgt := 220) hx hb dL_writes_199 (by decide) (fun c_100 => ?_) (fun c_100 => ?_)
                · have hf := ie_e hf c_100
                  refine lv_iconst (v := 0) hx hb dL_writes_220 (by decide) ?_
                  refine W.widen (k := 52) (n := 312) (by omega) (by omega) ?_
                  cases hf
                  subst hQ
                  exact q_zret B hr hlk rfl hw rfl rfl dL_writes_221
                · have hf := it_e hf c_100
                  refine lv_aload_n hx hb dL_writes_202 rfl (lv_at hl 1 rfl) ?_
                  refine lv_iload hx hb dL_writes_203 (lv_at hl 10 rfl) ?_
                  refine lv_iconst (v := 0) hx hb dL_writes_205 (by decide) ?_
                  refine lv_iconst (v := 0) hx hb dL_writes_206 (by decide) ?_
                  refine lv_iconst (v := 0) hx hb dL_writes_207 (by decide) ?_
                  refine lv_sipush (v := (-1000)) hx hb dL_writes_208 (by decide) ?_
                  obtain ⟨r_102, M_103, h_101, hf⟩ := bm_e hf
                  refine w_wrap (n := 6) (M' := M_103) (v := r_102) (As := [.ref (X.2.2 0), .int r_2, .int 0, .int 0, .int 0, .int (-1000)]) (rest := []) B T N9 hw (c_L_add l hfl _ X fu r_2 0 0 0 (-1000) M_99 (r_102, M_103) h_101 _) km_L_136 kt_L_add ki_L kc_L_add ⟨by decide +kernel, by decide +kernel, by decide +kernel⟩ rfl hl.1 rfl rfl ⟨(Nat.le_of_ble_eq_true rfl), (Nat.le_of_ble_eq_true rfl)⟩ (Nat.le_of_ble_eq_true rfl) ⟨(Nat.le_of_ble_eq_true rfl), (Nat.le_of_ble_eq_true rfl)⟩ dL_writes_211 rfl (fun H locs hw => ?_)
                  refine W.widen (k := 15) (n := 90) (by omega) (by omega) ?_
                  refine lv_sipush (v := (-7200)) hx hb dL_writes_214 (by decide) ?_
                  refine lv_icmp_eq (tgt := 222) hx hb dL_writes_217 (by decide) (fun c_104 => ?_) (fun c_104 => ?_)
                  · have hf := it_e hf c_104
                    refine lv_aload hx hb dL_writes_222 (lv_at hl 3 rfl) ?_
                    refine lv_iload hx hb dL_writes_224 (lv_at hl 10 rfl) ?_
                    obtain ⟨g_105, hf⟩ := grd_e hf
                    refine w_iald B hw (i := 143) (kw143 _) g_105 dL_writes_226 ?_
                    refine lv_bipush (v := 10) hx hb dL_writes_227 (by decide) ?_
                    refine lv_icmp_ne (tgt := 249) hx hb dL_writes_229 (by decide) (fun c_106 => ?_) (fun c_106 => ?_)
                    · have hf := ie_e hf c_106
                      refine lv_aload hx hb dL_writes_249 (lv_at hl 2 rfl) ?_
                      refine lv_aload hx hb dL_writes_251 (lv_at hl 3 rfl) ?_
                      refine lv_aload hx hb dL_writes_253 (lv_at hl 8 rfl) ?_
                      refine lv_iload hx hb dL_writes_255 (lv_at hl 10 rfl) ?_
                      refine lv_iload hx hb dL_writes_257 (lv_at hl 11 rfl) ?_
                      refine lv_iload hx hb dL_writes_259 (lv_at hl 12 rfl) ?_
                      refine lv_iload hx hb dL_writes_261 (lv_at hl 13 rfl) ?_
                      refine lv_iload hx hb dL_writes_263 (lv_at hl 0 rfl) ?_
                      obtain ⟨r_108, h_107, hf⟩ := bd_e hf
                      refine q_callSi (M' := M_103) (As := [.ref (X.2.2 142), .ref (X.2.2 143), .ref (X.2.2 153), .int r_2, .int v_78, .int r_80, .int v_82, .int v_84]) (rest := []) B hw (c_L_addable l _ X fu r_2 v_78 r_80 v_82 v_84 M_103 r_108 h_107 _) cs_L_142 rfl hl.1 rfl rfl ⟨(Nat.le_of_ble_eq_true rfl), (Nat.le_of_ble_eq_true rfl)⟩ (Nat.le_of_ble_eq_true rfl) ⟨(Nat.le_of_ble_eq_true rfl), (Nat.le_of_ble_eq_true rfl)⟩ dL_writes_265 rfl (fun H locs hw => ?_)
                      refine lv_istore (lv' := [(18, .int r_108), (17, .int v_84), (0, .ref (X.2.2 0)), (4, .ref (X.2.2 142)), (5, .ref (X.2.2 143)), (6, .ref (X.2.2 144)), (7, .ref (X.2.2 145)), (8, .ref (X.2.2 147)), (9, .ref (X.2.2 148)), (10, .ref (X.2.2 153)), (11, .ref (X.2.2 152)), (12, .int r_2), (14, .int v_78), (15, .int r_80), (16, .int v_82)]) hx hb dL_writes_268 hl (by decide) rfl (fun ls hl => ?_)
                      refine lv_iload hx hb dL_writes_270 (lv_at hl 0 rfl) ?_
                      refine lv_if_eq (tgt := 300) hx hb dL_writes_272 (by decide) (fun c_109 => ?_) (fun c_109 => ?_)
                      · have hf := it_e hf c_109
                        refine lv_iload hx hb dL_writes_300 (lv_at hl 11 rfl) ?_
                        refine lv_iconst (v := 1) hx hb dL_writes_302 (by decide) ?_
                        refine jn_e hf (fun kk => ∀ (v_111 : Int32) (H : Heap) (locs : List Loc) (ls : Array Slot), HW (LW ex) X M_103 s H locs → lv_has ls 20 [(0, .ref (X.2.2 0)), (4, .ref (X.2.2 142)), (5, .ref (X.2.2 143)), (6, .ref (X.2.2 144)), (7, .ref (X.2.2 145)), (8, .ref (X.2.2 147)), (9, .ref (X.2.2 148)), (10, .ref (X.2.2 153)), (11, .ref (X.2.2 152)), (12, .int r_2), (14, .int v_78), (15, .int r_80), (16, .int v_82), (17, .int v_84)] → kk v_111 = some rs → W p l e rm_L_writes s m args below meth c H locs 15 90 Q (F0 m 319 ls [.int v_111])) ?_ (fun k319_110 J319_110 hf => ?_)
                        · intro v_111 H locs ls hw hl hf
                          refine lv_istore (lv' := [(19, .int v_111), (0, .ref (X.2.2 0)), (4, .ref (X.2.2 142)), (5, .ref (X.2.2 143)), (6, .ref (X.2.2 144)), (7, .ref (X.2.2 145)), (8, .ref (X.2.2 147)), (9, .ref (X.2.2 148)), (10, .ref (X.2.2 153)), (11, .ref (X.2.2 152)), (12, .int r_2), (14, .int v_78), (15, .int r_80), (16, .int v_82), (17, .int v_84)]) hx hb dL_writes_319 hl (by decide) rfl (fun ls hl => ?_)
                          refine lv_iload hx hb dL_writes_321 (lv_at hl 10 rfl) ?_
                          refine lv_iconst (v := 2) hx hb dL_writes_323 (by decide) ?_
                          refine jn_e hf (fun kk => ∀ (M_113 : Mem) (H : Heap) (locs : List Loc) (ls : Array Slot), HW (LW ex) X M_113 s H locs → lv_has ls 20 [(0, .ref (X.2.2 0)), (4, .ref (X.2.2 142)), (5, .ref (X.2.2 143)), (6, .ref (X.2.2 144)), (7, .ref (X.2.2 145)), (8, .ref (X.2.2 147)), (9, .ref (X.2.2 148)), (11, .ref (X.2.2 152)), (12, .int r_2), (14, .int v_78), (15, .int r_80), (16, .int v_82), (17, .int v_84), (19, .int v_111)] → kk M_113 = some rs → W p l e rm_L_writes s m args below meth c H locs 15 90 Q (F0 m 339 ls [])) ?_ (fun k339_112 J339_112 hf => ?_)
                          · intro M_113 H locs ls hw hl hf
                            refine lv_aload hx hb dL_writes_339 (lv_at hl 1 rfl) ?_
                            refine lv_aload hx hb dL_writes_341 (lv_at hl 2 rfl) ?_
                            refine lv_iload hx hb dL_writes_343 (lv_at hl 8 rfl) ?_
                            refine lv_iload hx hb dL_writes_345 (lv_at hl 13 rfl) ?_
                            refine lv_iload hx hb dL_writes_347 (lv_at hl 9 rfl) ?_
                            refine lv_aload hx hb dL_writes_349 (lv_at hl 7 rfl) ?_
                            refine lv_iload hx hb dL_writes_351 (lv_at hl 8 rfl) ?_
                            refine lv_iconst (v := 1) hx hb dL_writes_353 (by decide) ?_
                            refine lv_iload hx hb dL_writes_354 (lv_at hl 10 rfl) ?_
                            obtain ⟨r_115, M_116, h_114, hf⟩ := bm_e hf
                            refine q_callSi (M' := M_116) (As := [.ref (X.2.2 152), .int r_2, .int 1, .int r_80]) (rest := [.int v_78, .int v_111, .int r_2, .ref (X.2.2 143), .ref (X.2.2 142)]) B hw (c_L_kept l _ X fu r_2 1 r_80 M_113 (r_115, M_116) h_114 _) cs_L_146 rfl hl.1 rfl rfl ⟨(Nat.le_of_ble_eq_true rfl), (Nat.le_of_ble_eq_true rfl)⟩ (Nat.le_of_ble_eq_true rfl) ⟨(Nat.le_of_ble_eq_true rfl), (Nat.le_of_ble_eq_true rfl)⟩ dL_writes_356 rfl (fun H locs hw => ?_)
                            refine lv_iload hx hb dL_writes_359 (lv_at hl 11 rfl) ?_
                            refine lv_iload hx hb dL_writes_361 (lv_at hl 12 rfl) ?_
                            refine q_callSl (M' := M_116) (As := [.int v_111, .int v_78, .int r_115, .int v_82, .int v_84]) (rest := [.int r_2, .ref (X.2.2 143), .ref (X.2.2 142)]) B hw (c_L_packed l _ X v_111 v_78 r_115 v_82 v_84 _ rfl M_116 _) cs_L_150 rfl hl.1 rfl rfl ⟨(Nat.le_of_ble_eq_true rfl), (Nat.le_of_ble_eq_true rfl)⟩ (Nat.le_of_ble_eq_true rfl) ⟨(Nat.le_of_ble_eq_true rfl), (Nat.le_of_ble_eq_true rfl)⟩ dL_writes_363 rfl (fun H locs hw => ?_)
                            obtain ⟨M_119, h_118, hf⟩ := bd_e hf
                            refine q_callSv (M' := M_119) (As := [.ref (X.2.2 142), .ref (X.2.2 143), .int r_2, .long (f_L_packed v_111 v_78 r_115 v_82 v_84)]) (rest := []) B hw (c_L_lay l _ X fu 142 60 143 6 r_2 (f_L_packed v_111 v_78 r_115 v_82 v_84) M_116 (kw142 _) (kw143 _) M_119 h_118 _) cs_L_154 rfl hl.1 rfl rfl ⟨(Nat.le_of_ble_eq_true rfl), (Nat.le_of_ble_eq_true rfl)⟩ (Nat.le_of_ble_eq_true rfl) ⟨(Nat.le_of_ble_eq_true rfl), (Nat.le_of_ble_eq_true rfl)⟩ dL_writes_366 rfl (fun H locs hw => ?_)
                            refine lv_aload hx hb dL_writes_369 (lv_at hl 5 rfl) ?_
                            refine lv_aload hx hb dL_writes_371 (lv_at hl 6 rfl) ?_
                            refine lv_aload hx hb dL_writes_373 (lv_at hl 3 rfl) ?_
                            refine lv_aload hx hb dL_writes_375 (lv_at hl 4 rfl) ?_
                            refine lv_aload hx hb dL_writes_377 (lv_at hl 7 rfl) ?_
                            refine lv_iload hx hb dL_writes_379 (lv_at hl 8 rfl) ?_
                            obtain ⟨M_121, h_120, hf⟩ := bd_e hf
                            refine q_callSv (M' := M_121) (As := [.ref (X.2.2 147), .ref (X.2.2 148), .ref (X.2.2 144), .ref (X.2.2 145), .ref (X.2.2 152), .int r_2]) (rest := []) B hw (c_L_written l _ X fu r_2 M_119 M_121 h_120 _) cs_L_158 rfl hl.1 rfl rfl ⟨(Nat.le_of_ble_eq_true rfl), (Nat.le_of_ble_eq_true rfl)⟩ (Nat.le_of_ble_eq_true rfl) ⟨(Nat.le_of_ble_eq_true rfl), (Nat.le_of_ble_eq_true rfl)⟩ dL_writes_381 rfl (fun H locs hw => ?_)
                            refine lv_aload_n hx hb dL_writes_384 rfl (lv_at hl 0 rfl) ?_
                            refine lv_iload hx hb dL_writes_385 (lv_at hl 8 rfl) ?_
                            refine lv_iload hx hb dL_writes_387 (lv_at hl 9 rfl) ?_
                            refine lv_iload hx hb dL_writes_389 (lv_at hl 10 rfl) ?_
                            refine lv_iload hx hb dL_writes_391 (lv_at hl 11 rfl) ?_
                            refine lv_iload hx hb dL_writes_393 (lv_at hl 12 rfl) ?_
                            obtain ⟨r_123, M_124, h_122, hf⟩ := bm_e hf
                            refine w_wrap (n := 6) (M' := M_124) (v := r_123) (As := [.ref (X.2.2 0), .int r_2, .int v_78, .int r_80, .int v_82, .int v_84]) (rest := []) B T N9 hw (c_L_add l hfl _ X fu r_2 v_78 r_80 v_82 v_84 M_121 (r_123, M_124) h_122 _) km_L_136 kt_L_add ki_L kc_L_add ⟨by decide +kernel, by decide +kernel, by decide +kernel⟩ rfl hl.1 rfl rfl ⟨(Nat.le_of_ble_eq_true rfl), (Nat.le_of_ble_eq_true rfl)⟩ (Nat.le_of_ble_eq_true rfl) ⟨(Nat.le_of_ble_eq_true rfl), (Nat.le_of_ble_eq_true rfl)⟩ dL_writes_395 rfl (fun H locs hw => ?_)
                            refine W.widen (k := 18) (n := 108) (by omega) (by omega) ?_
                            refine lv_iload hx hb dL_writes_398 (lv_at hl 13 rfl) ?_
                            refine lv_icmp_ne (tgt := 407) hx hb dL_writes_400 (by decide) (fun c_125 => ?_) (fun c_125 => ?_)
                            · have hf := ie_e hf c_125
                              refine lv_iconst (v := 0) hx hb dL_writes_407 (by decide) ?_
                              refine W.widen (k := 52) (n := 312) (by omega) (by omega) ?_
                              cases hf
                              subst hQ
                              exact q_zret B hr hlk rfl hw rfl rfl dL_writes_408
                            · have hf := it_e hf c_125
                              refine lv_iconst (v := 1) hx hb dL_writes_403 (by decide) ?_
                              refine lv_goto (tgt := 408) hx hb dL_writes_404 (by decide) ?_
                              refine W.widen (k := 52) (n := 312) (by omega) (by omega) ?_
                              cases hf
                              subst hQ
                              exact q_zret B hr hlk rfl hw rfl rfl dL_writes_408
                          refine lv_icmp_ge (tgt := 339) hx hb dL_writes_324 (by decide) (fun c_126 => ?_) (fun c_126 => ?_)
                          · have hf := it_e hf c_126
                            exact J339_112 M_103 _ _ _ hw (lv_sub hl [1, 2, 3, 4, 5, 6, 7, 9, 10, 11, 12, 13, 14, 0] rfl) hf
                          · have hf := ie_e hf c_126
                            refine lv_aload hx hb dL_writes_327 (lv_at hl 8 rfl) ?_
                            refine lv_bipush (v := 6) hx hb dL_writes_329 (by decide) ?_
                            refine lv_iload hx hb dL_writes_331 (lv_at hl 10 rfl) ?_
                            refine lv_iadd hx hb dL_writes_333 ?_
                            refine lv_dup2_11 hx hb dL_writes_334 rfl rfl ?_
                            obtain ⟨g_127, hf⟩ := grd_e hf
                            refine w_iald B hw (i := 153) (kw153 _) g_127 dL_writes_335 ?_
                            refine lv_iconst (v := 1) hx hb dL_writes_336 (by decide) ?_
                            refine lv_iadd hx hb dL_writes_337 ?_
                            refine w_iast B hw (i := 153) (kw153 _) g_127 dL_writes_338 hf (fun M_128 H locs hw hf => ?_)
                            exact J339_112 M_128 _ _ _ hw (lv_sub hl [1, 2, 3, 4, 5, 6, 7, 9, 10, 11, 12, 13, 14, 0] rfl) hf
                        refine lv_icmp_le (tgt := 311) hx hb dL_writes_303 (by decide) (fun c_129 => ?_) (fun c_129 => ?_)
                        · have hf := it_e hf c_129
                          refine lv_aload hx hb dL_writes_311 (lv_at hl 9 rfl) ?_
                          refine lv_bipush (v := 6) hx hb dL_writes_313 (by decide) ?_
                          refine lv_iload hx hb dL_writes_315 (lv_at hl 11 rfl) ?_
                          refine lv_iadd hx hb dL_writes_317 ?_
                          obtain ⟨g_130, hf⟩ := grd_e hf
                          refine w_iald B hw (i := 153) (kw153 _) g_130 dL_writes_318 ?_
                          exact J319_110 (M_103 153 (6 + r_2).toNatClampNeg) _ _ _ hw (lv_sub hl [2, 3, 4, 5, 6, 7, 8, 9, 10, 11, 12, 13, 14, 1] rfl) hf
                        · have hf := ie_e hf c_129
                          refine lv_iload hx hb dL_writes_306 (lv_at hl 12 rfl) ?_
                          refine lv_goto (tgt := 319) hx hb dL_writes_308 (by decide) ?_
                          exact J319_110 v_78 _ _ _ hw (lv_sub hl [2, 3, 4, 5, 6, 7, 8, 9, 10, 11, 12, 13, 14, 1] rfl) hf
                      · have hf := ie_e hf c_109
                        refine lv_aload_n hx hb dL_writes_275 rfl (lv_at hl 2 rfl) ?_
                        refine lv_iload hx hb dL_writes_276 (lv_at hl 11 rfl) ?_
                        refine lv_iload hx hb dL_writes_278 (lv_at hl 12 rfl) ?_
                        refine lv_iload hx hb dL_writes_280 (lv_at hl 13 rfl) ?_
                        refine lv_iload hx hb dL_writes_282 (lv_at hl 14 rfl) ?_
                        refine lv_iload hx hb dL_writes_284 (lv_at hl 1 rfl) ?_
                        obtain ⟨r_132, M_133, h_131, hf⟩ := bm_e hf
                        refine w_wrap (n := 6) (M' := M_133) (v := r_132) (As := [.ref (X.2.2 0), .int r_2, .int v_78, .int r_80, .int v_82, .int v_84]) (rest := []) B T N9 hw (c_L_add l hfl _ X fu r_2 v_78 r_80 v_82 v_84 M_103 (r_132, M_133) h_131 _) km_L_136 kt_L_add ki_L kc_L_add ⟨by decide +kernel, by decide +kernel, by decide +kernel⟩ rfl hl.1 rfl rfl ⟨(Nat.le_of_ble_eq_true rfl), (Nat.le_of_ble_eq_true rfl)⟩ (Nat.le_of_ble_eq_true rfl) ⟨(Nat.le_of_ble_eq_true rfl), (Nat.le_of_ble_eq_true rfl)⟩ dL_writes_286 rfl (fun H locs hw => ?_)
                        refine W.widen (k := 18) (n := 108) (by omega) (by omega) ?_
                        refine lv_iload hx hb dL_writes_289 (lv_at hl 0 rfl) ?_
                        refine lv_icmp_ne (tgt := 298) hx hb dL_writes_291 (by decide) (fun c_134 => ?_) (fun c_134 => ?_)
                        · have hf := ie_e hf c_134
                          refine lv_iconst (v := 0) hx hb dL_writes_298 (by decide) ?_
                          refine W.widen (k := 52) (n := 312) (by omega) (by omega) ?_
                          cases hf
                          subst hQ
                          exact q_zret B hr hlk rfl hw rfl rfl dL_writes_299
                        · have hf := it_e hf c_134
                          refine lv_iconst (v := 1) hx hb dL_writes_294 (by decide) ?_
                          refine lv_goto (tgt := 299) hx hb dL_writes_295 (by decide) ?_
                          refine W.widen (k := 52) (n := 312) (by omega) (by omega) ?_
                          cases hf
                          subst hQ
                          exact q_zret B hr hlk rfl hw rfl rfl dL_writes_299
                    · have hf := it_e hf c_106
                      refine lv_aload_n hx hb dL_writes_232 rfl (lv_at hl 1 rfl) ?_
                      refine lv_iload hx hb dL_writes_233 (lv_at hl 10 rfl) ?_
                      obtain ⟨r_136, M_137, h_135, hf⟩ := bm_e hf
                      refine w_wrap (n := 2) (M' := M_137) (v := r_136) (As := [.ref (X.2.2 0), .int r_2]) (rest := []) B T N9 hw (c_L_count l hfl _ X fu r_2 M_103 (r_136, M_137) h_135 _) km_L_139 kt_L_count ki_L kc_L_count ⟨by decide +kernel, by decide +kernel, by decide +kernel⟩ rfl hl.1 rfl rfl ⟨(Nat.le_of_ble_eq_true rfl), (Nat.le_of_ble_eq_true rfl)⟩ (Nat.le_of_ble_eq_true rfl) ⟨(Nat.le_of_ble_eq_true rfl), (Nat.le_of_ble_eq_true rfl)⟩ dL_writes_235 rfl (fun H locs hw => ?_)
                      refine W.widen (k := 16) (n := 96) (by omega) (by omega) ?_
                      refine lv_bipush (v := 10) hx hb dL_writes_238 (by decide) ?_
                      refine lv_icmp_ne (tgt := 247) hx hb dL_writes_240 (by decide) (fun c_138 => ?_) (fun c_138 => ?_)
                      · have hf := ie_e hf c_138
                        refine lv_iconst (v := 0) hx hb dL_writes_247 (by decide) ?_
                        refine W.widen (k := 52) (n := 312) (by omega) (by omega) ?_
                        cases hf
                        subst hQ
                        exact q_zret B hr hlk rfl hw rfl rfl dL_writes_248
                      · have hf := it_e hf c_138
                        refine lv_iconst (v := 1) hx hb dL_writes_243 (by decide) ?_
                        refine lv_goto (tgt := 248) hx hb dL_writes_244 (by decide) ?_
                        refine W.widen (k := 52) (n := 312) (by omega) (by omega) ?_
                        cases hf
                        subst hQ
                        exact q_zret B hr hlk rfl hw rfl rfl dL_writes_248
                  · have hf := ie_e hf c_104
                    refine lv_iconst (v := 0) hx hb dL_writes_220 (by decide) ?_
                    refine W.widen (k := 52) (n := 312) (by omega) (by omega) ?_
                    cases hf
                    subst hQ
                    exact q_zret B hr hlk rfl hw rfl rfl dL_writes_221
        refine lv_icmp_ne (tgt := 124) hx hb dL_writes_117 (by decide) (fun c_139 => ?_) (fun c_139 => ?_)
        · have hf := ie_e hf c_139
          refine lv_iload_n hx hb dL_writes_124 rfl (lv_at hl 2 rfl) ?_
          refine lv_bipush (v := 13) hx hb dL_writes_125 (by decide) ?_
          refine lv_ishr hx hb dL_writes_127 ?_
          obtain ⟨r_141, h_140, hf⟩ := bd_e hf
          refine q_callSi (M' := M) (As := [.int (p3 >>> (13 &&& 31))]) (rest := []) B hw (c_L_cellBy l _ X fu (p3 >>> (13 &&& 31)) M r_141 h_140 _) cs_L_133 rfl hl.1 rfl rfl ⟨(Nat.le_of_ble_eq_true rfl), (Nat.le_of_ble_eq_true rfl)⟩ (Nat.le_of_ble_eq_true rfl) ⟨(Nat.le_of_ble_eq_true rfl), (Nat.le_of_ble_eq_true rfl)⟩ dL_writes_128 rfl (fun H locs hw => ?_)
          exact J131_83 r_141 _ _ _ hw (lv_sub hl [1, 3, 4, 5, 6, 7, 8, 9, 10, 11, 12, 13, 0] rfl) hf
        · have hf := it_e hf c_139
          refine lv_iconst (v := 0) hx hb dL_writes_120 (by decide) ?_
          refine lv_goto (tgt := 131) hx hb dL_writes_121 (by decide) ?_
          exact J131_83 0 _ _ _ hw (lv_sub hl [1, 3, 4, 5, 6, 7, 8, 9, 10, 11, 12, 13, 0] rfl) hf
      refine lv_icmp_ne (tgt := 104) hx hb dL_writes_85 (by decide) (fun c_142 => ?_) (fun c_142 => ?_)
      · have hf := ie_e hf c_142
        refine lv_iload_n hx hb dL_writes_104 rfl (lv_at hl 4 rfl) ?_
        refine lv_iconst (v := 4) hx hb dL_writes_105 (by decide) ?_
        refine lv_ishr hx hb dL_writes_106 ?_
        obtain ⟨r_144, h_143, hf⟩ := bd_e hf
        refine q_callSi (M' := M) (As := [.int (p3 >>> (4 &&& 31))]) (rest := []) B hw (c_L_cellBy l _ X fu (p3 >>> (4 &&& 31)) M r_144 h_143 _) cs_L_133 rfl hl.1 rfl rfl ⟨(Nat.le_of_ble_eq_true rfl), (Nat.le_of_ble_eq_true rfl)⟩ (Nat.le_of_ble_eq_true rfl) ⟨(Nat.le_of_ble_eq_true rfl), (Nat.le_of_ble_eq_true rfl)⟩ dL_writes_107 rfl (fun H locs hw => ?_)
        exact J110_81 r_144 _ _ _ hw (lv_sub hl [2, 4, 5, 6, 7, 8, 9, 10, 11, 12, 13, 1, 0] rfl) hf
      · have hf := it_e hf c_142
        refine lv_iload_n hx hb dL_writes_88 rfl (lv_at hl 4 rfl) ?_
        refine lv_sipush (v := 7936) hx hb dL_writes_89 (by decide) ?_
        refine lv_iand hx hb dL_writes_92 ?_
        refine lv_if_ne (tgt := 100) hx hb dL_writes_93 (by decide) (fun c_145 => ?_) (fun c_145 => ?_)
        · have hf := ie_e hf c_145
          refine lv_iconst (v := 0) hx hb dL_writes_100 (by decide) ?_
          refine lv_goto (tgt := 110) hx hb dL_writes_101 (by decide) ?_
          exact J110_81 0 _ _ _ hw (lv_sub hl [2, 4, 5, 6, 7, 8, 9, 10, 11, 12, 13, 1, 0] rfl) hf
        · have hf := it_e hf c_145
          refine lv_iconst (v := 1) hx hb dL_writes_96 (by decide) ?_
          refine lv_goto (tgt := 110) hx hb dL_writes_97 (by decide) ?_
          exact J110_81 1 _ _ _ hw (lv_sub hl [2, 4, 5, 6, 7, 8, 9, 10, 11, 12, 13, 1, 0] rfl) hf
    refine lv_icmp_le (tgt := 63) hx hb dL_writes_24 (by decide) (fun c_146 => ?_) (fun c_146 => ?_)
    · have hf := it_e hf c_146
      refine lv_iload_n hx hb dL_writes_63 rfl (lv_at hl 4 rfl) ?_
      refine lv_iconst (v := 3) hx hb dL_writes_64 (by decide) ?_
      refine lv_ishr hx hb dL_writes_65 ?_
      obtain ⟨r_148, h_147, hf⟩ := bd_e hf
      refine q_callSi (M' := M) (As := [.int (p2 >>> (3 &&& 31))]) (rest := []) B hw (c_L_cellBy l _ X fu (p2 >>> (3 &&& 31)) M r_148 h_147 _) cs_L_133 rfl hl.1 rfl rfl ⟨(Nat.le_of_ble_eq_true rfl), (Nat.le_of_ble_eq_true rfl)⟩ (Nat.le_of_ble_eq_true rfl) ⟨(Nat.le_of_ble_eq_true rfl), (Nat.le_of_ble_eq_true rfl)⟩ dL_writes_66 rfl (fun H locs hw => ?_)
      exact J69_77 r_148 _ _ _ hw (lv_sub hl [2, 4, 5, 6, 7, 8, 9, 10, 11, 12, 13, 1] rfl) hf
    · have hf := ie_e hf c_146
      refine lv_iload_n hx hb dL_writes_27 rfl (lv_at hl 5 rfl) ?_
      refine lv_iload_n hx hb dL_writes_28 rfl (lv_at hl 4 rfl) ?_
      refine lv_sipush (v := 768) hx hb dL_writes_29 (by decide) ?_
      refine lv_iand hx hb dL_writes_32 ?_
      refine nmv_e hf (fun kk => ∀ (H : Heap) (locs : List Loc), HW (LW ex) X M s H locs → W p l e rm_L_writes s m args below meth c H locs 0 0 Q (F0 m 43 ls [.int kk, .int p3])) (fun J => ?_) (fun v_150 hf H locs hw => ?_)
      · refine lv_if_ne (tgt := 41) hx hb dL_writes_33 (by decide) (fun c_149 => ?_) (fun c_149 => ?_)
        · rw [if_neg (show ¬ ((p2 &&& 768) = 0) from c_149)] at J
          refine lv_bipush (v := 12) hx hb dL_writes_41 (by decide) ?_
          exact J _ _ hw
        · rw [if_pos (show (p2 &&& 768) = 0 from c_149)] at J
          refine lv_bipush (v := 102) hx hb dL_writes_36 (by decide) ?_
          refine lv_goto (tgt := 43) hx hb dL_writes_38 (by decide) ?_
          exact J _ _ hw
      · obtain ⟨r_152, h_151, hf⟩ := bd_e hf
        refine q_callSi (M' := M) (As := [.int p3, .int v_150]) (rest := []) B hw (c_L_low l _ X fu p3 v_150 M r_152 h_151 _) cs_L_130 rfl hl.1 rfl rfl ⟨(Nat.le_of_ble_eq_true rfl), (Nat.le_of_ble_eq_true rfl)⟩ (Nat.le_of_ble_eq_true rfl) ⟨(Nat.le_of_ble_eq_true rfl), (Nat.le_of_ble_eq_true rfl)⟩ dL_writes_43 rfl (fun H locs hw => ?_)
        refine lv_iload_n hx hb dL_writes_46 rfl (lv_at hl 4 rfl) ?_
        refine lv_sipush (v := 768) hx hb dL_writes_47 (by decide) ?_
        refine lv_iand hx hb dL_writes_50 ?_
        refine nmv_e hf (fun kk => ∀ (H : Heap) (locs : List Loc), HW (LW ex) X M s H locs → W p l e rm_L_writes s m args below meth c H locs 0 0 Q (F0 m 59 ls [.int kk, .int r_152])) (fun J => ?_) (fun v_154 hf H locs hw => ?_)
        · refine lv_if_ne (tgt := 58) hx hb dL_writes_51 (by decide) (fun c_153 => ?_) (fun c_153 => ?_)
          · rw [if_neg (show ¬ ((p2 &&& 768) = 0) from c_153)] at J
            refine lv_iconst (v := 0) hx hb dL_writes_58 (by decide) ?_
            exact J _ _ hw
          · rw [if_pos (show (p2 &&& 768) = 0 from c_153)] at J
            refine lv_iconst (v := 1) hx hb dL_writes_54 (by decide) ?_
            refine lv_goto (tgt := 59) hx hb dL_writes_55 (by decide) ?_
            exact J _ _ hw
        · refine lv_isub hx hb dL_writes_59 ?_
          refine lv_goto (tgt := 69) hx hb dL_writes_60 (by decide) ?_
          exact J69_77 (r_152 - v_154) _ _ _ hw (lv_sub hl [2, 4, 5, 6, 7, 8, 9, 10, 11, 12, 13, 1] rfl) hf
