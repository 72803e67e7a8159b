abbrev rm_L_settings : Room := { frames := 10, cells := 47, slots := 282, locals := 181 }
set_option maxRecDepth 100000 in
set_option maxHeartbeats 8000000 in
theorem c_L_settings (l : Launch) (hfl : l.stackTraces = false) (ex : List (Nat × Nat)) (X : XT) (fu : Nat) (p1 : Int32) (p2 : Int32) (p3 : Int32) (M : Mem)  (rs : (Int32 × Mem)) (hf : f_L_settings fu p1 p2 p3 M = some rs) (sz : Nat) : Met l yL_settings (wbig yL_settings cL_settings 14 (some .boolean)) rm_L_settings (va_Pc [.ref (X.2.2 0), .int p1, .int p2, .int p3, .ref (X.2.2 144), .ref (X.2.2 145), .ref (X.2.2 147), .ref (X.2.2 148), .ref (X.2.2 153), .ref (X.2.2 152)] (PXN (LW ex) X M sz)) (QI (LW ex) X rs.2 rs.1 sz) 47 282 (AX (LW ex) X sz) := by
  refine wn_go (L := (LW ex)) (M := M) (by decide +kernel) (Nat.le_of_ble_eq_true rfl) ?_
  intro p e s m args below meth c hsz B T N9 hr hlk hw ls hl
  subst hsz
  have hx := B.hx
  have hb := B.hb
  have hl : lv_has ls 14 [(0, .ref (X.2.2 0)), (1, .int p1), (2, .int p2), (3, .int p3), (4, .ref (X.2.2 144)), (5, .ref (X.2.2 145)), (6, .ref (X.2.2 147)), (7, .ref (X.2.2 148)), (8, .ref (X.2.2 153)), (9, .ref (X.2.2 152))] := hl
  generalize hQ : MQ below _ args s 47 282 (AX (LW ex) X s.heap.size) = Q
  unfold f_L_settings at hf
  refine lv_iload_n hx hb dL_settings_0 rfl (lv_at hl 2 rfl) ?_
  refine lv_iconst (v := 3) hx hb dL_settings_1 (by decide) ?_
  obtain ⟨r_2, h_1, hf⟩ := bd_e hf
  refine q_callSi (M' := M) (As := [.int p2, .int 3]) (rest := []) B hw (c_L_low l _ X fu p2 3 M r_2 h_1 _) cs_L_130 rfl hl.1 rfl rfl ⟨(Nat.le_of_ble_eq_true rfl), (Nat.le_of_ble_eq_true rfl)⟩ (Nat.le_of_ble_eq_true rfl) ⟨(Nat.le_of_ble_eq_true rfl), (Nat.le_of_ble_eq_true rfl)⟩ dL_settings_2 rfl (fun H locs hw => ?_)
  refine lv_istore (lv' := [(10, .int r_2), (0, .ref (X.2.2 0)), (1, .int p1), (2, .int p2), (3, .int p3), (4, .ref (X.2.2 144)), (5, .ref (X.2.2 145)), (6, .ref (X.2.2 147)), (7, .ref (X.2.2 148)), (8, .ref (X.2.2 153)), (9, .ref (X.2.2 152))]) hx hb dL_settings_5 hl (by decide) rfl (fun ls hl => ?_)
  refine lv_iload_n hx hb dL_settings_7 rfl (lv_at hl 2 rfl) ?_
  refine lv_if_ne (tgt := 177) hx hb dL_settings_8 (by decide) (fun c_3 => ?_) (fun c_3 => ?_)
  · have hf := ie_e hf c_3
    refine lv_iload_n hx hb dL_settings_177 rfl (lv_at hl 2 rfl) ?_
    refine lv_iconst (v := 1) hx hb dL_settings_178 (by decide) ?_
    refine lv_icmp_ne (tgt := 364) hx hb dL_settings_179 (by decide) (fun c_4 => ?_) (fun c_4 => ?_)
    · have hf := ie_e hf c_4
      refine lv_iload_n hx hb dL_settings_364 rfl (lv_at hl 2 rfl) ?_
      refine lv_iconst (v := 2) hx hb dL_settings_365 (by decide) ?_
      refine lv_icmp_ne (tgt := 485) hx hb dL_settings_366 (by decide) (fun c_5 => ?_) (fun c_5 => ?_)
      · have hf := ie_e hf c_5
        refine lv_iload_n hx hb dL_settings_485 rfl (lv_at hl 2 rfl) ?_
        refine lv_iconst (v := 3) hx hb dL_settings_486 (by decide) ?_
        refine lv_icmp_ne (tgt := 618) hx hb dL_settings_487 (by decide) (fun c_6 => ?_) (fun c_6 => ?_)
        · have hf := ie_e hf c_6
          refine lv_iload_n hx hb dL_settings_618 rfl (lv_at hl 2 rfl) ?_
          refine lv_iconst (v := 4) hx hb dL_settings_619 (by decide) ?_
          refine lv_icmp_ne (tgt := 772) hx hb dL_settings_620 (by decide) (fun c_7 => ?_) (fun c_7 => ?_)
          · have hf := ie_e hf c_7
            refine lv_iconst (v := 1) hx hb dL_settings_772 (by decide) ?_
            refine lv_iload_n hx hb dL_settings_773 rfl (lv_at hl 4 rfl) ?_
            refine lv_iload_n hx hb dL_settings_774 rfl (lv_at hl 4 rfl) ?_
            refine lv_sipush (v := 768) hx hb dL_settings_775 (by decide) ?_
            refine lv_iand hx hb dL_settings_778 ?_
            refine nmv_e hf (fun kk => ∀ (H : Heap) (locs : List Loc), HW (LW ex) X M s H locs → W p l e rm_L_settings s m args below meth c H locs 0 0 Q (F0 m 789 ls [.int kk, .int p3, .int 1])) (fun J => ?_) (fun v_9 hf H locs hw => ?_)
            · refine lv_if_ne (tgt := 787) hx hb dL_settings_779 (by decide) (fun c_8 => ?_) (fun c_8 => ?_)
              · rw [if_neg (show ¬ ((p3 &&& 768) = 0) from c_8)] at J
                refine lv_bipush (v := 12) hx hb dL_settings_787 (by decide) ?_
                exact J _ _ hw
              · rw [if_pos (show (p3 &&& 768) = 0 from c_8)] at J
                refine lv_bipush (v := 100) hx hb dL_settings_782 (by decide) ?_
                refine lv_goto (tgt := 789) hx hb dL_settings_784 (by decide) ?_
                exact J _ _ hw
            · obtain ⟨r_11, h_10, hf⟩ := bd_e hf
              refine q_callSi (M' := M) (As := [.int p3, .int v_9]) (rest := [.int 1]) B hw (c_L_low l _ X fu p3 v_9 M r_11 h_10 _) cs_L_130 rfl hl.1 rfl rfl ⟨(Nat.le_of_ble_eq_true rfl), (Nat.le_of_ble_eq_true rfl)⟩ (Nat.le_of_ble_eq_true rfl) ⟨(Nat.le_of_ble_eq_true rfl), (Nat.le_of_ble_eq_true rfl)⟩ dL_settings_789 rfl (fun H locs hw => ?_)
              refine lv_iadd hx hb dL_settings_792 ?_
              refine r_topn hf (fun x11_12 hf => ?_)
              refine lv_istore (lv' := [(11, .int x11_12), (10, .int r_2), (0, .ref (X.2.2 0)), (1, .int p1), (2, .int p2), (3, .int p3), (4, .ref (X.2.2 144)), (5, .ref (X.2.2 145)), (6, .ref (X.2.2 147)), (7, .ref (X.2.2 148)), (8, .ref (X.2.2 153)), (9, .ref (X.2.2 152))]) hx hb dL_settings_793 hl (by decide) rfl (fun ls hl => ?_)
              refine lv_aload hx hb dL_settings_795 (lv_at hl 11 rfl) ?_
              refine lv_iconst (v := 1) hx hb dL_settings_797 (by decide) ?_
              refine lv_dup2_11 hx hb dL_settings_798 rfl rfl ?_
              refine w_iald B hw (i := 152) (kw152 _) (by decide) dL_settings_799 ?_
              refine lv_iload hx hb dL_settings_800 (lv_at hl 0 rfl) ?_
              refine lv_iadd hx hb dL_settings_802 ?_
              refine w_iast B hw (i := 152) (kw152 _) (by decide) dL_settings_803 hf (fun M_13 H locs hw hf => ?_)
              refine lv_aload hx hb dL_settings_804 (lv_at hl 8 rfl) ?_
              refine lv_aload hx hb dL_settings_806 (lv_at hl 9 rfl) ?_
              refine lv_aload hx hb dL_settings_808 (lv_at hl 6 rfl) ?_
              refine lv_aload hx hb dL_settings_810 (lv_at hl 7 rfl) ?_
              refine lv_aload hx hb dL_settings_812 (lv_at hl 11 rfl) ?_
              obtain ⟨M_15, h_14, hf⟩ := bd_e hf
              refine q_callSv (M' := M_15) (As := [.ref (X.2.2 147), .ref (X.2.2 148), .ref (X.2.2 144), .ref (X.2.2 145), .ref (X.2.2 152)]) (rest := []) B hw (c_L_age l _ X fu M_13 M_15 h_14 _) cs_L_113 rfl hl.1 rfl rfl ⟨(Nat.le_of_ble_eq_true rfl), (Nat.le_of_ble_eq_true rfl)⟩ (Nat.le_of_ble_eq_true rfl) ⟨(Nat.le_of_ble_eq_true rfl), (Nat.le_of_ble_eq_true rfl)⟩ dL_settings_814 rfl (fun H locs hw => ?_)
              refine lv_aload_n hx hb dL_settings_817 rfl (lv_at hl 2 rfl) ?_
              refine lv_iconst (v := 0) hx hb dL_settings_818 (by decide) ?_
              obtain ⟨r_17, M_18, h_16, hf⟩ := bm_e hf
              refine w_wrap (n := 2) (M' := M_18) (v := r_17) (As := [.ref (X.2.2 0), .int 0]) (rest := []) B T N9 hw (c_L_pass l hfl _ X fu 0 M_15 (r_17, M_18) h_16 _) km_L_196 kt_L_pass ki_L kc_L_pass ⟨by decide +kernel, by decide +kernel, by decide +kernel⟩ rfl hl.1 rfl rfl ⟨(Nat.le_of_ble_eq_true rfl), (Nat.le_of_ble_eq_true rfl)⟩ (Nat.le_of_ble_eq_true rfl) ⟨(Nat.le_of_ble_eq_true rfl), (Nat.le_of_ble_eq_true rfl)⟩ dL_settings_819 rfl (fun H locs hw => ?_)
              refine W.widen (k := 1) (n := 6) (by omega) (by omega) ?_
              refine lv_sipush (v := (-7200)) hx hb dL_settings_822 (by decide) ?_
              refine lv_icmp_ne (tgt := 857) hx hb dL_settings_825 (by decide) (fun c_19 => ?_) (fun c_19 => ?_)
              · have hf := ie_e hf c_19
                refine lv_iconst (v := 0) hx hb dL_settings_857 (by decide) ?_
                refine W.widen (k := 47) (n := 282) (by omega) (by omega) ?_
                cases hf
                subst hQ
                exact q_zret B hr hlk rfl hw rfl rfl dL_settings_858
              · have hf := it_e hf c_19
                refine lv_aload_n hx hb dL_settings_828 rfl (lv_at hl 2 rfl) ?_
                refine lv_bipush (v := 101) hx hb dL_settings_829 (by decide) ?_
                obtain ⟨r_21, M_22, h_20, hf⟩ := bm_e hf
                refine w_wrap (n := 2) (M' := M_22) (v := r_21) (As := [.ref (X.2.2 0), .int 101]) (rest := []) B T N9 hw (c_L_pass l hfl _ X fu 101 M_18 (r_21, M_22) h_20 _) km_L_196 kt_L_pass ki_L kc_L_pass ⟨by decide +kernel, by decide +kernel, by decide +kernel⟩ rfl hl.1 rfl rfl ⟨(Nat.le_of_ble_eq_true rfl), (Nat.le_of_ble_eq_true rfl)⟩ (Nat.le_of_ble_eq_true rfl) ⟨(Nat.le_of_ble_eq_true rfl), (Nat.le_of_ble_eq_true rfl)⟩ dL_settings_831 rfl (fun H locs hw => ?_)
                refine W.widen (k := 2) (n := 12) (by omega) (by omega) ?_
                refine lv_sipush (v := (-7200)) hx hb dL_settings_834 (by decide) ?_
                refine lv_icmp_ne (tgt := 857) hx hb dL_settings_837 (by decide) (fun c_23 => ?_) (fun c_23 => ?_)
                · have hf := ie_e hf c_23
                  refine lv_iconst (v := 0) hx hb dL_settings_857 (by decide) ?_
                  refine W.widen (k := 47) (n := 282) (by omega) (by omega) ?_
                  cases hf
                  subst hQ
                  exact q_zret B hr hlk rfl hw rfl rfl dL_settings_858
                · have hf := it_e hf c_23
                  refine lv_aload_n hx hb dL_settings_840 rfl (lv_at hl 2 rfl) ?_
                  refine lv_iload hx hb dL_settings_841 (lv_at hl 0 rfl) ?_
                  obtain ⟨r_25, M_26, h_24, hf⟩ := bm_e hf
                  refine w_wrap (n := 2) (M' := M_26) (v := r_25) (As := [.ref (X.2.2 0), .int x11_12]) (rest := []) B T N9 hw (c_L_pass l hfl _ X fu x11_12 M_22 (r_25, M_26) h_24 _) km_L_196 kt_L_pass ki_L kc_L_pass ⟨by decide +kernel, by decide +kernel, by decide +kernel⟩ rfl hl.1 rfl rfl ⟨(Nat.le_of_ble_eq_true rfl), (Nat.le_of_ble_eq_true rfl)⟩ (Nat.le_of_ble_eq_true rfl) ⟨(Nat.le_of_ble_eq_true rfl), (Nat.le_of_ble_eq_true rfl)⟩ dL_settings_843 rfl (fun H locs hw => ?_)
                  refine W.widen (k := 3) (n := 18) (by omega) (by omega) ?_
                  refine lv_aload hx hb dL_settings_846 (lv_at hl 11 rfl) ?_
                  refine lv_iconst (v := 1) hx hb dL_settings_848 (by decide) ?_
                  refine w_iald B hw (i := 152) (kw152 _) (by decide) dL_settings_849 ?_
                  refine lv_icmp_ne (tgt := 857) hx hb dL_settings_850 (by decide) (fun c_27 => ?_) (fun c_27 => ?_)
                  · have hf := ie_e hf c_27
                    refine lv_iconst (v := 0) hx hb dL_settings_857 (by decide) ?_
                    refine W.widen (k := 47) (n := 282) (by omega) (by omega) ?_
                    cases hf
                    subst hQ
                    exact q_zret B hr hlk rfl hw rfl rfl dL_settings_858
                  · have hf := it_e hf c_27
                    refine lv_iconst (v := 1) hx hb dL_settings_853 (by decide) ?_
                    refine lv_goto (tgt := 858) hx hb dL_settings_854 (by decide) ?_
                    refine W.widen (k := 47) (n := 282) (by omega) (by omega) ?_
                    cases hf
                    subst hQ
                    exact q_zret B hr hlk rfl hw rfl rfl dL_settings_858
          · have hf := it_e hf c_7
            refine lv_iload_n hx hb dL_settings_623 rfl (lv_at hl 4 rfl) ?_
            refine lv_bipush (v := 6) hx hb dL_settings_624 (by decide) ?_
            obtain ⟨r_29, h_28, hf⟩ := bd_e hf
            refine q_callSi (M' := M) (As := [.int p3, .int 6]) (rest := []) B hw (c_L_low l _ X fu p3 6 M r_29 h_28 _) cs_L_130 rfl hl.1 rfl rfl ⟨(Nat.le_of_ble_eq_true rfl), (Nat.le_of_ble_eq_true rfl)⟩ (Nat.le_of_ble_eq_true rfl) ⟨(Nat.le_of_ble_eq_true rfl), (Nat.le_of_ble_eq_true rfl)⟩ dL_settings_626 rfl (fun H locs hw => ?_)
            refine lv_istore (lv' := [(11, .int r_29), (10, .int r_2), (0, .ref (X.2.2 0)), (1, .int p1), (2, .int p2), (3, .int p3), (4, .ref (X.2.2 144)), (5, .ref (X.2.2 145)), (6, .ref (X.2.2 147)), (7, .ref (X.2.2 148)), (8, .ref (X.2.2 153)), (9, .ref (X.2.2 152))]) hx hb dL_settings_629 hl (by decide) rfl (fun ls hl => ?_)
            refine lv_iload_n hx hb dL_settings_631 rfl (lv_at hl 5 rfl) ?_
            refine lv_sipush (v := 768) hx hb dL_settings_632 (by decide) ?_
            refine lv_iand hx hb dL_settings_635 ?_
            refine nmv_e hf (fun kk => ∀ (H : Heap) (locs : List Loc), HW (LW ex) X M s H locs → W p l e rm_L_settings s m args below meth c H locs 0 0 Q (F0 m 644 ls [.int kk])) (fun J => ?_) (fun v_31 hf H locs hw => ?_)
            · refine lv_if_ne (tgt := 643) hx hb dL_settings_636 (by decide) (fun c_30 => ?_) (fun c_30 => ?_)
              · rw [if_neg (show ¬ ((p3 &&& 768) = 0) from c_30)] at J
                refine lv_iconst (v := 0) hx hb dL_settings_643 (by decide) ?_
                exact J _ _ hw
              · rw [if_pos (show (p3 &&& 768) = 0 from c_30)] at J
                refine lv_iconst (v := 1) hx hb dL_settings_639 (by decide) ?_
                refine lv_goto (tgt := 644) hx hb dL_settings_640 (by decide) ?_
                exact J _ _ hw
            · refine lv_istore (lv' := [(12, .int v_31), (11, .int r_29), (10, .int r_2), (0, .ref (X.2.2 0)), (1, .int p1), (2, .int p2), (3, .int p3), (4, .ref (X.2.2 144)), (5, .ref (X.2.2 145)), (6, .ref (X.2.2 147)), (7, .ref (X.2.2 148)), (8, .ref (X.2.2 153)), (9, .ref (X.2.2 152))]) hx hb dL_settings_644 hl (by decide) rfl (fun ls hl => ?_)
              refine lv_aload hx hb dL_settings_646 (lv_at hl 11 rfl) ?_
              refine lv_bipush (v := 8) hx hb dL_settings_648 (by decide) ?_
              refine lv_iload hx hb dL_settings_650 (lv_at hl 1 rfl) ?_
              refine lv_iadd hx hb dL_settings_652 ?_
              obtain ⟨g_32, hf⟩ := grd_e hf
              refine w_iald B hw (i := 153) (kw153 _) g_32 dL_settings_653 ?_
              refine lv_iload hx hb dL_settings_654 (lv_at hl 2 rfl) ?_
              refine lv_ishr hx hb dL_settings_656 ?_
              refine lv_iconst (v := 1) hx hb dL_settings_657 (by decide) ?_
              refine lv_iand hx hb dL_settings_658 ?_
              refine lv_iconst (v := 1) hx hb dL_settings_659 (by decide) ?_
              refine nmv_e hf (fun kk => ∀ (H : Heap) (locs : List Loc), HW (LW ex) X M s H locs → W p l e rm_L_settings s m args below meth c H locs 0 0 Q (F0 m 668 ls [.int kk])) (fun J => ?_) (fun v_34 hf H locs hw => ?_)
              · refine lv_icmp_ne (tgt := 667) hx hb dL_settings_660 (by decide) (fun c_33 => ?_) (fun c_33 => ?_)
                · rw [if_neg (show ¬ ((((M 153 (8 + r_29).toNatClampNeg) >>> (r_2 &&& 31)) &&& 1) = 1) from c_33)] at J
                  refine lv_iconst (v := 0) hx hb dL_settings_667 (by decide) ?_
                  exact J _ _ hw
                · rw [if_pos (show (((M 153 (8 + r_29).toNatClampNeg) >>> (r_2 &&& 31)) &&& 1) = 1 from c_33)] at J
                  refine lv_iconst (v := 1) hx hb dL_settings_663 (by decide) ?_
                  refine lv_goto (tgt := 668) hx hb dL_settings_664 (by decide) ?_
                  exact J _ _ hw
              · refine lv_istore (lv' := [(13, .int v_34), (12, .int v_31), (11, .int r_29), (10, .int r_2), (0, .ref (X.2.2 0)), (1, .int p1), (2, .int p2), (3, .int p3), (4, .ref (X.2.2 144)), (5, .ref (X.2.2 145)), (6, .ref (X.2.2 147)), (7, .ref (X.2.2 148)), (8, .ref (X.2.2 153)), (9, .ref (X.2.2 152))]) hx hb dL_settings_668 hl (by decide) rfl (fun ls hl => ?_)
                refine lv_aload hx hb dL_settings_670 (lv_at hl 12 rfl) ?_
                refine lv_bipush (v := 8) hx hb dL_settings_672 (by decide) ?_
                refine lv_iload hx hb dL_settings_674 (lv_at hl 2 rfl) ?_
                refine lv_iadd hx hb dL_settings_676 ?_
                refine lv_iload hx hb dL_settings_677 (lv_at hl 1 rfl) ?_
                refine nmv_e hf (fun kk => ∀ (H : Heap) (locs : List Loc), HW (LW ex) X M s H locs → W p l e rm_L_settings s m args below meth c H locs 0 0 Q (F0 m 713 ls [.int kk, .int (8 + r_29), .ref (X.2.2 153)])) (fun J => ?_) (fun v_36 hf H locs hw => ?_)
                · refine lv_if_eq (tgt := 698) hx hb dL_settings_679 (by decide) (fun c_35 => ?_) (fun c_35 => ?_)
                  · rw [if_pos (show v_31 = 0 from c_35)] at J
                    refine lv_aload hx hb dL_settings_698 (lv_at hl 12 rfl) ?_
                    refine lv_bipush (v := 8) hx hb dL_settings_700 (by decide) ?_
                    refine lv_iload hx hb dL_settings_702 (lv_at hl 2 rfl) ?_
                    refine lv_iadd hx hb dL_settings_704 ?_
                    refine w_iald B hw (i := 153) (kw153 _) g_32 dL_settings_705 ?_
                    refine lv_iconst (v := 1) hx hb dL_settings_706 (by decide) ?_
                    refine lv_iload hx hb dL_settings_707 (lv_at hl 3 rfl) ?_
                    refine lv_ishl hx hb dL_settings_709 ?_
                    refine lv_iconst (v := (-1)) hx hb dL_settings_710 (by decide) ?_
                    refine lv_ixor hx hb dL_settings_711 ?_
                    refine lv_iand hx hb dL_settings_712 ?_
                    exact J _ _ hw
                  · rw [if_neg (show ¬ (v_31 = 0) from c_35)] at J
                    refine lv_aload hx hb dL_settings_682 (lv_at hl 12 rfl) ?_
                    refine lv_bipush (v := 8) hx hb dL_settings_684 (by decide) ?_
                    refine lv_iload hx hb dL_settings_686 (lv_at hl 2 rfl) ?_
                    refine lv_iadd hx hb dL_settings_688 ?_
                    refine w_iald B hw (i := 153) (kw153 _) g_32 dL_settings_689 ?_
                    refine lv_iconst (v := 1) hx hb dL_settings_690 (by decide) ?_
                    refine lv_iload hx hb dL_settings_691 (lv_at hl 3 rfl) ?_
                    refine lv_ishl hx hb dL_settings_693 ?_
                    refine lv_ior hx hb dL_settings_694 ?_
                    refine lv_goto (tgt := 713) hx hb dL_settings_695 (by decide) ?_
                    exact J _ _ hw
                · refine w_iast B hw (i := 153) (kw153 _) g_32 dL_settings_713 hf (fun M_37 H locs hw hf => ?_)
                  refine lv_aload_n hx hb dL_settings_714 rfl (lv_at hl 4 rfl) ?_
                  refine lv_bipush (v := 6) hx hb dL_settings_715 (by decide) ?_
                  refine lv_iconst (v := 0) hx hb dL_settings_717 (by decide) ?_
                  refine lv_iload hx hb dL_settings_718 (lv_at hl 1 rfl) ?_
                  obtain ⟨r_39, M_40, h_38, hf⟩ := bm_e hf
                  refine w_wrap (n := 4) (M' := M_40) (v := r_39) (As := [.ref (X.2.2 0), .int 6, .int 0, .int v_31]) (rest := []) B T N9 hw (c_L_forbid l hfl _ X fu 6 0 v_31 M_37 (r_39, M_40) h_38 _) km_L_194 kt_L_forbid ki_L kc_L_forbid ⟨by decide +kernel, by decide +kernel, by decide +kernel⟩ rfl hl.1 rfl rfl ⟨(Nat.le_of_ble_eq_true rfl), (Nat.le_of_ble_eq_true rfl)⟩ (Nat.le_of_ble_eq_true rfl) ⟨(Nat.le_of_ble_eq_true rfl), (Nat.le_of_ble_eq_true rfl)⟩ dL_settings_720 rfl (fun H locs hw => ?_)
                  refine W.widen (k := 2) (n := 12) (by omega) (by omega) ?_
                  refine lv_sipush (v := (-7100)) hx hb dL_settings_723 (by decide) ?_
                  refine lv_icmp_ne (tgt := 770) hx hb dL_settings_726 (by decide) (fun c_41 => ?_) (fun c_41 => ?_)
                  · have hf := ie_e hf c_41
                    refine lv_iconst (v := 0) hx hb dL_settings_770 (by decide) ?_
                    refine W.widen (k := 47) (n := 282) (by omega) (by omega) ?_
                    cases hf
                    subst hQ
                    exact q_zret B hr hlk rfl hw rfl rfl dL_settings_771
                  · have hf := it_e hf c_41
                    refine lv_aload_n hx hb dL_settings_729 rfl (lv_at hl 4 rfl) ?_
                    refine lv_iconst (v := 0) hx hb dL_settings_730 (by decide) ?_
                    refine lv_iconst (v := 3) hx hb dL_settings_731 (by decide) ?_
                    refine lv_iload hx hb dL_settings_732 (lv_at hl 1 rfl) ?_
                    obtain ⟨r_43, M_44, h_42, hf⟩ := bm_e hf
                    refine w_wrap (n := 4) (M' := M_44) (v := r_43) (As := [.ref (X.2.2 0), .int 0, .int 3, .int v_31]) (rest := []) B T N9 hw (c_L_forbid l hfl _ X fu 0 3 v_31 M_40 (r_43, M_44) h_42 _) km_L_194 kt_L_forbid ki_L kc_L_forbid ⟨by decide +kernel, by decide +kernel, by decide +kernel⟩ rfl hl.1 rfl rfl ⟨(Nat.le_of_ble_eq_true rfl), (Nat.le_of_ble_eq_true rfl)⟩ (Nat.le_of_ble_eq_true rfl) ⟨(Nat.le_of_ble_eq_true rfl), (Nat.le_of_ble_eq_true rfl)⟩ dL_settings_734 rfl (fun H locs hw => ?_)
                    refine W.widen (k := 4) (n := 24) (by omega) (by omega) ?_
                    refine lv_sipush (v := (-7100)) hx hb dL_settings_737 (by decide) ?_
                    refine lv_icmp_ne (tgt := 770) hx hb dL_settings_740 (by decide) (fun c_45 => ?_) (fun c_45 => ?_)
                    · have hf := ie_e hf c_45
                      refine lv_iconst (v := 0) hx hb dL_settings_770 (by decide) ?_
                      refine W.widen (k := 47) (n := 282) (by omega) (by omega) ?_
                      cases hf
                      subst hQ
                      exact q_zret B hr hlk rfl hw rfl rfl dL_settings_771
                    · have hf := it_e hf c_45
                      refine lv_aload_n hx hb dL_settings_743 rfl (lv_at hl 4 rfl) ?_
                      refine lv_iload hx hb dL_settings_744 (lv_at hl 2 rfl) ?_
                      refine lv_iload hx hb dL_settings_746 (lv_at hl 3 rfl) ?_
                      refine lv_iload hx hb dL_settings_748 (lv_at hl 1 rfl) ?_
                      obtain ⟨r_47, M_48, h_46, hf⟩ := bm_e hf
                      refine w_wrap (n := 4) (M' := M_48) (v := r_47) (As := [.ref (X.2.2 0), .int r_29, .int r_2, .int v_31]) (rest := []) B T N9 hw (c_L_forbid l hfl _ X fu r_29 r_2 v_31 M_44 (r_47, M_48) h_46 _) km_L_194 kt_L_forbid ki_L kc_L_forbid ⟨by decide +kernel, by decide +kernel, by decide +kernel⟩ rfl hl.1 rfl rfl ⟨(Nat.le_of_ble_eq_true rfl), (Nat.le_of_ble_eq_true rfl)⟩ (Nat.le_of_ble_eq_true rfl) ⟨(Nat.le_of_ble_eq_true rfl), (Nat.le_of_ble_eq_true rfl)⟩ dL_settings_750 rfl (fun H locs hw => ?_)
                      refine W.widen (k := 6) (n := 36) (by omega) (by omega) ?_
                      refine lv_iload hx hb dL_settings_753 (lv_at hl 0 rfl) ?_
                      refine nmv_e hf (fun kk => ∀ (H : Heap) (locs : List Loc), HW (LW ex) X M_48 s H locs → W p l e rm_L_settings s m args below meth c H locs 6 36 Q (F0 m 763 ls [.int kk, .int r_47])) (fun J => ?_) (fun v_50 hf H locs hw => ?_)
                      · refine lv_if_eq (tgt := 762) hx hb dL_settings_755 (by decide) (fun c_49 => ?_) (fun c_49 => ?_)
                        · rw [if_pos (show v_34 = 0 from c_49)] at J
                          refine lv_iconst (v := 0) hx hb dL_settings_762 (by decide) ?_
                          exact J _ _ hw
                        · rw [if_neg (show ¬ (v_34 = 0) from c_49)] at J
                          refine lv_iconst (v := 1) hx hb dL_settings_758 (by decide) ?_
                          refine lv_goto (tgt := 763) hx hb dL_settings_759 (by decide) ?_
                          exact J _ _ hw
                      · refine lv_icmp_ne (tgt := 770) hx hb dL_settings_763 (by decide) (fun c_51 => ?_) (fun c_51 => ?_)
                        · have hf := ie_e hf c_51
                          refine lv_iconst (v := 0) hx hb dL_settings_770 (by decide) ?_
                          refine W.widen (k := 47) (n := 282) (by omega) (by omega) ?_
                          cases hf
                          subst hQ
                          exact q_zret B hr hlk rfl hw rfl rfl dL_settings_771
                        · have hf := it_e hf c_51
                          refine lv_iconst (v := 1) hx hb dL_settings_766 (by decide) ?_
                          refine lv_goto (tgt := 771) hx hb dL_settings_767 (by decide) ?_
                          refine W.widen (k := 47) (n := 282) (by omega) (by omega) ?_
                          cases hf
                          subst hQ
                          exact q_zret B hr hlk rfl hw rfl rfl dL_settings_771
        · have hf := it_e hf c_6
          refine lv_iload_n hx hb dL_settings_490 rfl (lv_at hl 4 rfl) ?_
          refine lv_iconst (v := 5) hx hb dL_settings_491 (by decide) ?_
          obtain ⟨r_53, h_52, hf⟩ := bd_e hf
          refine q_callSi (M' := M) (As := [.int p3, .int 5]) (rest := []) B hw (c_L_low l _ X fu p3 5 M r_53 h_52 _) cs_L_130 rfl hl.1 rfl rfl ⟨(Nat.le_of_ble_eq_true rfl), (Nat.le_of_ble_eq_true rfl)⟩ (Nat.le_of_ble_eq_true rfl) ⟨(Nat.le_of_ble_eq_true rfl), (Nat.le_of_ble_eq_true rfl)⟩ dL_settings_492 rfl (fun H locs hw => ?_)
          refine lv_istore (lv' := [(11, .int r_53), (10, .int r_2), (0, .ref (X.2.2 0)), (1, .int p1), (2, .int p2), (3, .int p3), (4, .ref (X.2.2 144)), (5, .ref (X.2.2 145)), (6, .ref (X.2.2 147)), (7, .ref (X.2.2 148)), (8, .ref (X.2.2 153)), (9, .ref (X.2.2 152))]) hx hb dL_settings_495 hl (by decide) rfl (fun ls hl => ?_)
          refine lv_iload_n hx hb dL_settings_497 rfl (lv_at hl 5 rfl) ?_
          refine lv_sipush (v := 768) hx hb dL_settings_498 (by decide) ?_
          refine lv_iand hx hb dL_settings_501 ?_
          refine nmv_e hf (fun kk => ∀ (H : Heap) (locs : List Loc), HW (LW ex) X M s H locs → W p l e rm_L_settings s m args below meth c H locs 0 0 Q (F0 m 510 ls [.int kk])) (fun J => ?_) (fun v_55 hf H locs hw => ?_)
          · refine lv_if_le (tgt := 509) hx hb dL_settings_502 (by decide) (fun c_54 => ?_) (fun c_54 => ?_)
            · rw [if_pos (show (p3 &&& 768) ≤ 0 from c_54)] at J
              refine lv_iconst (v := 0) hx hb dL_settings_509 (by decide) ?_
              exact J _ _ hw
            · rw [if_neg (show ¬ ((p3 &&& 768) ≤ 0) from c_54)] at J
              refine lv_iconst (v := 1) hx hb dL_settings_505 (by decide) ?_
              refine lv_goto (tgt := 510) hx hb dL_settings_506 (by decide) ?_
              exact J _ _ hw
          · refine lv_istore (lv' := [(12, .int v_55), (11, .int r_53), (10, .int r_2), (0, .ref (X.2.2 0)), (1, .int p1), (2, .int p2), (3, .int p3), (4, .ref (X.2.2 144)), (5, .ref (X.2.2 145)), (6, .ref (X.2.2 147)), (7, .ref (X.2.2 148)), (8, .ref (X.2.2 153)), (9, .ref (X.2.2 152))]) hx hb dL_settings_510 hl (by decide) rfl (fun ls hl => ?_)
            refine lv_aload_n hx hb dL_settings_512 rfl (lv_at hl 3 rfl) ?_
            refine lv_iconst (v := 3) hx hb dL_settings_513 (by decide) ?_
            refine lv_iconst (v := 0) hx hb dL_settings_514 (by decide) ?_
            refine lv_iload hx hb dL_settings_515 (lv_at hl 0 rfl) ?_
            obtain ⟨r_57, M_58, h_56, hf⟩ := bm_e hf
            refine w_wrap (n := 4) (M' := M_58) (v := r_57) (As := [.ref (X.2.2 0), .int 3, .int 0, .int v_55]) (rest := []) B T N9 hw (c_L_fail l hfl _ X fu 3 0 v_55 M (r_57, M_58) h_56 _) km_L_191 kt_L_fail ki_L kc_L_fail ⟨by decide +kernel, by decide +kernel, by decide +kernel⟩ rfl hl.1 rfl rfl ⟨(Nat.le_of_ble_eq_true rfl), (Nat.le_of_ble_eq_true rfl)⟩ (Nat.le_of_ble_eq_true rfl) ⟨(Nat.le_of_ble_eq_true rfl), (Nat.le_of_ble_eq_true rfl)⟩ dL_settings_517 rfl (fun H locs hw => ?_)
            refine W.widen (k := 2) (n := 12) (by omega) (by omega) ?_
            refine lv_sipush (v := (-7100)) hx hb dL_settings_520 (by decide) ?_
            refine lv_icmp_ne (tgt := 557) hx hb dL_settings_523 (by decide) (fun c_59 => ?_) (fun c_59 => ?_)
            · have hf := ie_e hf c_59
              refine lv_iconst (v := 0) hx hb dL_settings_557 (by decide) ?_
              refine W.widen (k := 47) (n := 282) (by omega) (by omega) ?_
              cases hf
              subst hQ
              exact q_zret B hr hlk rfl hw rfl rfl dL_settings_558
            · have hf := it_e hf c_59
              refine lv_aload_n hx hb dL_settings_526 rfl (lv_at hl 3 rfl) ?_
              refine lv_iload hx hb dL_settings_527 (lv_at hl 2 rfl) ?_
              refine lv_bipush (v := 21) hx hb dL_settings_529 (by decide) ?_
              refine lv_iload hx hb dL_settings_531 (lv_at hl 0 rfl) ?_
              obtain ⟨r_61, M_62, h_60, hf⟩ := bm_e hf
              refine w_wrap (n := 4) (M' := M_62) (v := r_61) (As := [.ref (X.2.2 0), .int r_2, .int 21, .int v_55]) (rest := []) B T N9 hw (c_L_fail l hfl _ X fu r_2 21 v_55 M_58 (r_61, M_62) h_60 _) km_L_191 kt_L_fail ki_L kc_L_fail ⟨by decide +kernel, by decide +kernel, by decide +kernel⟩ rfl hl.1 rfl rfl ⟨(Nat.le_of_ble_eq_true rfl), (Nat.le_of_ble_eq_true rfl)⟩ (Nat.le_of_ble_eq_true rfl) ⟨(Nat.le_of_ble_eq_true rfl), (Nat.le_of_ble_eq_true rfl)⟩ dL_settings_533 rfl (fun H locs hw => ?_)
              refine W.widen (k := 4) (n := 24) (by omega) (by omega) ?_
              refine lv_sipush (v := (-7200)) hx hb dL_settings_536 (by decide) ?_
              refine lv_icmp_ne (tgt := 557) hx hb dL_settings_539 (by decide) (fun c_63 => ?_) (fun c_63 => ?_)
              · have hf := ie_e hf c_63
                refine lv_iconst (v := 0) hx hb dL_settings_557 (by decide) ?_
                refine W.widen (k := 47) (n := 282) (by omega) (by omega) ?_
                cases hf
                subst hQ
                exact q_zret B hr hlk rfl hw rfl rfl dL_settings_558
              · have hf := it_e hf c_63
                refine lv_aload_n hx hb dL_settings_542 rfl (lv_at hl 3 rfl) ?_
                refine lv_iload hx hb dL_settings_543 (lv_at hl 2 rfl) ?_
                refine lv_iconst (v := (-1)) hx hb dL_settings_545 (by decide) ?_
                refine lv_iload hx hb dL_settings_546 (lv_at hl 0 rfl) ?_
                obtain ⟨r_65, M_66, h_64, hf⟩ := bm_e hf
                refine w_wrap (n := 4) (M' := M_66) (v := r_65) (As := [.ref (X.2.2 0), .int r_2, .int (-1), .int v_55]) (rest := []) B T N9 hw (c_L_fail l hfl _ X fu r_2 (-1) v_55 M_62 (r_65, M_66) h_64 _) km_L_191 kt_L_fail ki_L kc_L_fail ⟨by decide +kernel, by decide +kernel, by decide +kernel⟩ rfl hl.1 rfl rfl ⟨(Nat.le_of_ble_eq_true rfl), (Nat.le_of_ble_eq_true rfl)⟩ (Nat.le_of_ble_eq_true rfl) ⟨(Nat.le_of_ble_eq_true rfl), (Nat.le_of_ble_eq_true rfl)⟩ dL_settings_548 rfl (fun H locs hw => ?_)
                refine W.widen (k := 6) (n := 36) (by omega) (by omega) ?_
                refine lv_sipush (v := (-7200)) hx hb dL_settings_551 (by decide) ?_
                refine lv_icmp_eq (tgt := 559) hx hb dL_settings_554 (by decide) (fun c_67 => ?_) (fun c_67 => ?_)
                · have hf := it_e hf c_67
                  refine lv_aload hx hb dL_settings_559 (lv_at hl 8 rfl) ?_
                  refine lv_bipush (v := 15) hx hb dL_settings_561 (by decide) ?_
                  refine lv_iload hx hb dL_settings_563 (lv_at hl 2 rfl) ?_
                  refine lv_iadd hx hb dL_settings_565 ?_
                  obtain ⟨g_68, hf⟩ := grd_e hf
                  refine w_iald B hw (i := 145) (kw145 _) g_68 dL_settings_566 ?_
                  refine r_topn hf (fun x13_69 hf => ?_)
                  refine lv_istore (lv' := [(13, .int x13_69), (12, .int v_55), (11, .int r_53), (10, .int r_2), (0, .ref (X.2.2 0)), (1, .int p1), (2, .int p2), (3, .int p3), (4, .ref (X.2.2 144)), (5, .ref (X.2.2 145)), (6, .ref (X.2.2 147)), (7, .ref (X.2.2 148)), (8, .ref (X.2.2 153)), (9, .ref (X.2.2 152))]) hx hb dL_settings_567 hl (by decide) rfl (fun ls hl => ?_)
                  refine lv_aload hx hb dL_settings_569 (lv_at hl 9 rfl) ?_
                  refine lv_bipush (v := 15) hx hb dL_settings_571 (by decide) ?_
                  refine lv_iload hx hb dL_settings_573 (lv_at hl 3 rfl) ?_
                  refine lv_iadd hx hb dL_settings_575 ?_
                  refine lv_iload hx hb dL_settings_576 (lv_at hl 2 rfl) ?_
                  refine w_iast B hw (i := 145) (kw145 _) g_68 dL_settings_578 hf (fun M_70 H locs hw hf => ?_)
                  refine lv_aload hx hb dL_settings_579 (lv_at hl 9 rfl) ?_
                  refine lv_bipush (v := 18) hx hb dL_settings_581 (by decide) ?_
                  refine lv_iload hx hb dL_settings_583 (lv_at hl 3 rfl) ?_
                  refine lv_iadd hx hb dL_settings_585 ?_
                  refine lv_iload hx hb dL_settings_586 (lv_at hl 1 rfl) ?_
                  refine nmv_e hf (fun kk => ∀ (H : Heap) (locs : List Loc), HW (LW ex) X M_70 s H locs → W p l e rm_L_settings s m args below meth c H locs 6 36 Q (F0 m 596 ls [.int kk, .int (18 + r_2), .ref (X.2.2 145)])) (fun J => ?_) (fun v_72 hf H locs hw => ?_)
                  · refine lv_if_eq (tgt := 595) hx hb dL_settings_588 (by decide) (fun c_71 => ?_) (fun c_71 => ?_)
                    · rw [if_pos (show v_55 = 0 from c_71)] at J
                      refine lv_iconst (v := 0) hx hb dL_settings_595 (by decide) ?_
                      exact J _ _ hw
                    · rw [if_neg (show ¬ (v_55 = 0) from c_71)] at J
                      refine lv_iconst (v := 1) hx hb dL_settings_591 (by decide) ?_
                      refine lv_goto (tgt := 596) hx hb dL_settings_592 (by decide) ?_
                      exact J _ _ hw
                  · obtain ⟨g_73, hf⟩ := grd_e hf
                    refine w_iast B hw (i := 145) (kw145 _) g_73 dL_settings_596 hf (fun M_74 H locs hw hf => ?_)
                    refine lv_aload_n hx hb dL_settings_597 rfl (lv_at hl 4 rfl) ?_
                    refine lv_iload hx hb dL_settings_598 (lv_at hl 3 rfl) ?_
                    refine lv_iload hx hb dL_settings_600 (lv_at hl 2 rfl) ?_
                    refine lv_iload hx hb dL_settings_602 (lv_at hl 1 rfl) ?_
                    obtain ⟨r_76, M_77, h_75, hf⟩ := bm_e hf
                    refine w_wrap (n := 4) (M' := M_77) (v := r_76) (As := [.ref (X.2.2 0), .int r_2, .int r_53, .int v_55]) (rest := []) B T N9 hw (c_L_fail l hfl _ X fu r_2 r_53 v_55 M_74 (r_76, M_77) h_75 _) km_L_191 kt_L_fail ki_L kc_L_fail ⟨by decide +kernel, by decide +kernel, by decide +kernel⟩ rfl hl.1 rfl rfl ⟨(Nat.le_of_ble_eq_true rfl), (Nat.le_of_ble_eq_true rfl)⟩ (Nat.le_of_ble_eq_true rfl) ⟨(Nat.le_of_ble_eq_true rfl), (Nat.le_of_ble_eq_true rfl)⟩ dL_settings_604 rfl (fun H locs hw => ?_)
                    refine W.widen (k := 8) (n := 48) (by omega) (by omega) ?_
                    refine lv_iload hx hb dL_settings_607 (lv_at hl 0 rfl) ?_
                    refine lv_icmp_ne (tgt := 616) hx hb dL_settings_609 (by decide) (fun c_78 => ?_) (fun c_78 => ?_)
                    · have hf := ie_e hf c_78
                      refine lv_iconst (v := 0) hx hb dL_settings_616 (by decide) ?_
                      refine W.widen (k := 47) (n := 282) (by omega) (by omega) ?_
                      cases hf
                      subst hQ
                      exact q_zret B hr hlk rfl hw rfl rfl dL_settings_617
                    · have hf := it_e hf c_78
                      refine lv_iconst (v := 1) hx hb dL_settings_612 (by decide) ?_
                      refine lv_goto (tgt := 617) hx hb dL_settings_613 (by decide) ?_
                      refine W.widen (k := 47) (n := 282) (by omega) (by omega) ?_
                      cases hf
                      subst hQ
                      exact q_zret B hr hlk rfl hw rfl rfl dL_settings_617
                · have hf := ie_e hf c_67
                  refine lv_iconst (v := 0) hx hb dL_settings_557 (by decide) ?_
                  refine W.widen (k := 47) (n := 282) (by omega) (by omega) ?_
                  cases hf
                  subst hQ
                  exact q_zret B hr hlk rfl hw rfl rfl dL_settings_558
      · have hf := it_e hf c_5
        refine lv_iload_n hx hb dL_settings_369 rfl (lv_at hl 4 rfl) ?_
        refine lv_iload_n hx hb dL_settings_370 rfl (lv_at hl 4 rfl) ?_
        refine lv_sipush (v := 768) hx hb dL_settings_371 (by decide) ?_
        refine lv_iand hx hb dL_settings_374 ?_
        refine nmv_e hf (fun kk => ∀ (H : Heap) (locs : List Loc), HW (LW ex) X M s H locs → W p l e rm_L_settings s m args below meth c H locs 0 0 Q (F0 m 386 ls [.int kk, .int p3])) (fun J => ?_) (fun v_80 hf H locs hw => ?_)
        · refine lv_if_ne (tgt := 384) hx hb dL_settings_375 (by decide) (fun c_79 => ?_) (fun c_79 => ?_)
          · rw [if_neg (show ¬ ((p3 &&& 768) = 0) from c_79)] at J
            refine lv_bipush (v := 30) hx hb dL_settings_384 (by decide) ?_
            exact J _ _ hw
          · rw [if_pos (show (p3 &&& 768) = 0 from c_79)] at J
            refine lv_sipush (v := 201) hx hb dL_settings_378 (by decide) ?_
            refine lv_goto (tgt := 386) hx hb dL_settings_381 (by decide) ?_
            exact J _ _ hw
        · obtain ⟨r_82, h_81, hf⟩ := bd_e hf
          refine q_callSi (M' := M) (As := [.int p3, .int v_80]) (rest := []) B hw (c_L_low l _ X fu p3 v_80 M r_82 h_81 _) cs_L_130 rfl hl.1 rfl rfl ⟨(Nat.le_of_ble_eq_true rfl), (Nat.le_of_ble_eq_true rfl)⟩ (Nat.le_of_ble_eq_true rfl) ⟨(Nat.le_of_ble_eq_true rfl), (Nat.le_of_ble_eq_true rfl)⟩ dL_settings_386 rfl (fun H locs hw => ?_)
          refine lv_istore (lv' := [(11, .int r_82), (10, .int r_2), (0, .ref (X.2.2 0)), (1, .int p1), (2, .int p2), (3, .int p3), (4, .ref (X.2.2 144)), (5, .ref (X.2.2 145)), (6, .ref (X.2.2 147)), (7, .ref (X.2.2 148)), (8, .ref (X.2.2 153)), (9, .ref (X.2.2 152))]) hx hb dL_settings_389 hl (by decide) rfl (fun ls hl => ?_)
          refine lv_aload_n hx hb dL_settings_391 rfl (lv_at hl 2 rfl) ?_
          refine lv_iconst (v := 3) hx hb dL_settings_392 (by decide) ?_
          refine lv_iconst (v := 0) hx hb dL_settings_393 (by decide) ?_
          obtain ⟨r_84, M_85, h_83, hf⟩ := bm_e hf
          refine w_wrap (n := 3) (M' := M_85) (v := r_84) (As := [.ref (X.2.2 0), .int 3, .int 0]) (rest := []) B T N9 hw (c_L_setLease l hfl _ X fu 3 0 M (r_84, M_85) h_83 _) km_L_189 kt_L_setLease ki_L kc_L_setLease ⟨by decide +kernel, by decide +kernel, by decide +kernel⟩ rfl hl.1 rfl rfl ⟨(Nat.le_of_ble_eq_true rfl), (Nat.le_of_ble_eq_true rfl)⟩ (Nat.le_of_ble_eq_true rfl) ⟨(Nat.le_of_ble_eq_true rfl), (Nat.le_of_ble_eq_true rfl)⟩ dL_settings_394 rfl (fun H locs hw => ?_)
          refine W.widen (k := 2) (n := 12) (by omega) (by omega) ?_
          refine lv_sipush (v := (-7100)) hx hb dL_settings_397 (by decide) ?_
          refine lv_icmp_ne (tgt := 431) hx hb dL_settings_400 (by decide) (fun c_86 => ?_) (fun c_86 => ?_)
          · have hf := ie_e hf c_86
            refine lv_iconst (v := 0) hx hb dL_settings_431 (by decide) ?_
            refine W.widen (k := 47) (n := 282) (by omega) (by omega) ?_
            cases hf
            subst hQ
            exact q_zret B hr hlk rfl hw rfl rfl dL_settings_432
          · have hf := it_e hf c_86
            refine lv_aload_n hx hb dL_settings_403 rfl (lv_at hl 2 rfl) ?_
            refine lv_iload hx hb dL_settings_404 (lv_at hl 1 rfl) ?_
            refine lv_sipush (v := 201) hx hb dL_settings_406 (by decide) ?_
            obtain ⟨r_88, M_89, h_87, hf⟩ := bm_e hf
            refine w_wrap (n := 3) (M' := M_89) (v := r_88) (As := [.ref (X.2.2 0), .int r_2, .int 201]) (rest := []) B T N9 hw (c_L_setLease l hfl _ X fu r_2 201 M_85 (r_88, M_89) h_87 _) km_L_189 kt_L_setLease ki_L kc_L_setLease ⟨by decide +kernel, by decide +kernel, by decide +kernel⟩ rfl hl.1 rfl rfl ⟨(Nat.le_of_ble_eq_true rfl), (Nat.le_of_ble_eq_true rfl)⟩ (Nat.le_of_ble_eq_true rfl) ⟨(Nat.le_of_ble_eq_true rfl), (Nat.le_of_ble_eq_true rfl)⟩ dL_settings_409 rfl (fun H locs hw => ?_)
            refine W.widen (k := 4) (n := 24) (by omega) (by omega) ?_
            refine lv_sipush (v := (-7200)) hx hb dL_settings_412 (by decide) ?_
            refine lv_icmp_ne (tgt := 431) hx hb dL_settings_415 (by decide) (fun c_90 => ?_) (fun c_90 => ?_)
            · have hf := ie_e hf c_90
              refine lv_iconst (v := 0) hx hb dL_settings_431 (by decide) ?_
              refine W.widen (k := 47) (n := 282) (by omega) (by omega) ?_
              cases hf
              subst hQ
              exact q_zret B hr hlk rfl hw rfl rfl dL_settings_432
            · have hf := it_e hf c_90
              refine lv_aload_n hx hb dL_settings_418 rfl (lv_at hl 2 rfl) ?_
              refine lv_iload hx hb dL_settings_419 (lv_at hl 1 rfl) ?_
              refine lv_iconst (v := (-1)) hx hb dL_settings_421 (by decide) ?_
              obtain ⟨r_92, M_93, h_91, hf⟩ := bm_e hf
              refine w_wrap (n := 3) (M' := M_93) (v := r_92) (As := [.ref (X.2.2 0), .int r_2, .int (-1)]) (rest := []) B T N9 hw (c_L_setLease l hfl _ X fu r_2 (-1) M_89 (r_92, M_93) h_91 _) km_L_189 kt_L_setLease ki_L kc_L_setLease ⟨by decide +kernel, by decide +kernel, by decide +kernel⟩ rfl hl.1 rfl rfl ⟨(Nat.le_of_ble_eq_true rfl), (Nat.le_of_ble_eq_true rfl)⟩ (Nat.le_of_ble_eq_true rfl) ⟨(Nat.le_of_ble_eq_true rfl), (Nat.le_of_ble_eq_true rfl)⟩ dL_settings_422 rfl (fun H locs hw => ?_)
              refine W.widen (k := 6) (n := 36) (by omega) (by omega) ?_
              refine lv_sipush (v := (-7200)) hx hb dL_settings_425 (by decide) ?_
              refine lv_icmp_eq (tgt := 433) hx hb dL_settings_428 (by decide) (fun c_94 => ?_) (fun c_94 => ?_)
              · have hf := it_e hf c_94
                refine lv_aload hx hb dL_settings_433 (lv_at hl 7 rfl) ?_
                refine lv_bipush (v := 12) hx hb dL_settings_435 (by decide) ?_
                refine lv_iload hx hb dL_settings_437 (lv_at hl 1 rfl) ?_
                refine lv_iadd hx hb dL_settings_439 ?_
                obtain ⟨g_95, hf⟩ := grd_e hf
                refine w_iald B hw (i := 145) (kw145 _) g_95 dL_settings_440 ?_
                refine r_topn hf (fun x12_96 hf => ?_)
                refine lv_istore (lv' := [(12, .int x12_96), (11, .int r_82), (10, .int r_2), (0, .ref (X.2.2 0)), (1, .int p1), (2, .int p2), (3, .int p3), (4, .ref (X.2.2 144)), (5, .ref (X.2.2 145)), (6, .ref (X.2.2 147)), (7, .ref (X.2.2 148)), (8, .ref (X.2.2 153)), (9, .ref (X.2.2 152))]) hx hb dL_settings_441 hl (by decide) rfl (fun ls hl => ?_)
                refine lv_aload hx hb dL_settings_443 (lv_at hl 8 rfl) ?_
                refine lv_bipush (v := 12) hx hb dL_settings_445 (by decide) ?_
                refine lv_iload hx hb dL_settings_447 (lv_at hl 2 rfl) ?_
                refine lv_iadd hx hb dL_settings_449 ?_
                refine lv_iload hx hb dL_settings_450 (lv_at hl 1 rfl) ?_
                refine w_iast B hw (i := 145) (kw145 _) g_95 dL_settings_452 hf (fun M_97 H locs hw hf => ?_)
                refine lv_aload hx hb dL_settings_453 (lv_at hl 9 rfl) ?_
                refine lv_aload hx hb dL_settings_455 (lv_at hl 10 rfl) ?_
                refine lv_aload hx hb dL_settings_457 (lv_at hl 7 rfl) ?_
                refine lv_aload hx hb dL_settings_459 (lv_at hl 8 rfl) ?_
                refine lv_aload hx hb dL_settings_461 (lv_at hl 12 rfl) ?_
                obtain ⟨M_99, h_98, hf⟩ := bd_e hf
                refine q_callSv (M' := M_99) (As := [.ref (X.2.2 147), .ref (X.2.2 148), .ref (X.2.2 144), .ref (X.2.2 145), .ref (X.2.2 152)]) (rest := []) B hw (c_L_age l _ X fu M_97 M_99 h_98 _) cs_L_113 rfl hl.1 rfl rfl ⟨(Nat.le_of_ble_eq_true rfl), (Nat.le_of_ble_eq_true rfl)⟩ (Nat.le_of_ble_eq_true rfl) ⟨(Nat.le_of_ble_eq_true rfl), (Nat.le_of_ble_eq_true rfl)⟩ dL_settings_463 rfl (fun H locs hw => ?_)
                refine lv_aload_n hx hb dL_settings_466 rfl (lv_at hl 3 rfl) ?_
                refine lv_iload hx hb dL_settings_467 (lv_at hl 2 rfl) ?_
                refine lv_iload hx hb dL_settings_469 (lv_at hl 1 rfl) ?_
                obtain ⟨r_101, M_102, h_100, hf⟩ := bm_e hf
                refine w_wrap (n := 3) (M' := M_102) (v := r_101) (As := [.ref (X.2.2 0), .int r_2, .int r_82]) (rest := []) B T N9 hw (c_L_setLease l hfl _ X fu r_2 r_82 M_99 (r_101, M_102) h_100 _) km_L_189 kt_L_setLease ki_L kc_L_setLease ⟨by decide +kernel, by decide +kernel, by decide +kernel⟩ rfl hl.1 rfl rfl ⟨(Nat.le_of_ble_eq_true rfl), (Nat.le_of_ble_eq_true rfl)⟩ (Nat.le_of_ble_eq_true rfl) ⟨(Nat.le_of_ble_eq_true rfl), (Nat.le_of_ble_eq_true rfl)⟩ dL_settings_471 rfl (fun H locs hw => ?_)
                refine W.widen (k := 8) (n := 48) (by omega) (by omega) ?_
                refine lv_iload hx hb dL_settings_474 (lv_at hl 0 rfl) ?_
                refine lv_icmp_ne (tgt := 483) hx hb dL_settings_476 (by decide) (fun c_103 => ?_) (fun c_103 => ?_)
                · have hf := ie_e hf c_103
                  refine lv_iconst (v := 0) hx hb dL_settings_483 (by decide) ?_
                  refine W.widen (k := 47) (n := 282) (by omega) (by omega) ?_
                  cases hf
                  subst hQ
                  exact q_zret B hr hlk rfl hw rfl rfl dL_settings_484
                · have hf := it_e hf c_103
                  refine lv_iconst (v := 1) hx hb dL_settings_479 (by decide) ?_
                  refine lv_goto (tgt := 484) hx hb dL_settings_480 (by decide) ?_
                  refine W.widen (k := 47) (n := 282) (by omega) (by omega) ?_
                  cases hf
                  subst hQ
                  exact q_zret B hr hlk rfl hw rfl rfl dL_settings_484
              · have hf := ie_e hf c_94
                refine lv_iconst (v := 0) hx hb dL_settings_431 (by decide) ?_
                refine W.widen (k := 47) (n := 282) (by omega) (by omega) ?_
                cases hf
                subst hQ
                exact q_zret B hr hlk rfl hw rfl rfl dL_settings_432
    · have hf := it_e hf c_4
      refine lv_iconst (v := 1) hx hb dL_settings_182 (by decide) ?_
      refine lv_iload_n hx hb dL_settings_183 rfl (lv_at hl 4 rfl) ?_
      refine lv_iload_n hx hb dL_settings_184 rfl (lv_at hl 4 rfl) ?_
      refine lv_sipush (v := 768) hx hb dL_settings_185 (by decide) ?_
      refine lv_iand hx hb dL_settings_188 ?_
      refine nmv_e hf (fun kk => ∀ (H : Heap) (locs : List Loc), HW (LW ex) X M s H locs → W p l e rm_L_settings s m args below meth c H locs 0 0 Q (F0 m 198 ls [.int kk, .int p3, .int 1])) (fun J => ?_) (fun v_105 hf H locs hw => ?_)
      · refine lv_if_ne (tgt := 197) hx hb dL_settings_189 (by decide) (fun c_104 => ?_) (fun c_104 => ?_)
        · rw [if_neg (show ¬ ((p3 &&& 768) = 0) from c_104)] at J
          refine lv_iconst (v := 4) hx hb dL_settings_197 (by decide) ?_
          exact J _ _ hw
        · rw [if_pos (show (p3 &&& 768) = 0 from c_104)] at J
          refine lv_bipush (v := 20) hx hb dL_settings_192 (by decide) ?_
          refine lv_goto (tgt := 198) hx hb dL_settings_194 (by decide) ?_
          exact J _ _ hw
      · obtain ⟨r_107, h_106, hf⟩ := bd_e hf
        refine q_callSi (M' := M) (As := [.int p3, .int v_105]) (rest := [.int 1]) B hw (c_L_low l _ X fu p3 v_105 M r_107 h_106 _) cs_L_130 rfl hl.1 rfl rfl ⟨(Nat.le_of_ble_eq_true rfl), (Nat.le_of_ble_eq_true rfl)⟩ (Nat.le_of_ble_eq_true rfl) ⟨(Nat.le_of_ble_eq_true rfl), (Nat.le_of_ble_eq_true rfl)⟩ dL_settings_198 rfl (fun H locs hw => ?_)
        refine lv_iadd hx hb dL_settings_201 ?_
        refine r_topn hf (fun x11_108 hf => ?_)
        refine lv_istore (lv' := [(11, .int x11_108), (10, .int r_2), (0, .ref (X.2.2 0)), (1, .int p1), (2, .int p2), (3, .int p3), (4, .ref (X.2.2 144)), (5, .ref (X.2.2 145)), (6, .ref (X.2.2 147)), (7, .ref (X.2.2 148)), (8, .ref (X.2.2 153)), (9, .ref (X.2.2 152))]) hx hb dL_settings_202 hl (by decide) rfl (fun ls hl => ?_)
        refine lv_iload_n hx hb dL_settings_204 rfl (lv_at hl 5 rfl) ?_
        refine lv_bipush (v := 10) hx hb dL_settings_205 (by decide) ?_
        refine lv_ishr hx hb dL_settings_207 ?_
        refine lv_iconst (v := 3) hx hb dL_settings_208 (by decide) ?_
        obtain ⟨r_110, h_109, hf⟩ := bd_e hf
        refine q_callSi (M' := M) (As := [.int (p3 >>> (10 &&& 31)), .int 3]) (rest := []) B hw (c_L_low l _ X fu (p3 >>> (10 &&& 31)) 3 M r_110 h_109 _) cs_L_130 rfl hl.1 rfl rfl ⟨(Nat.le_of_ble_eq_true rfl), (Nat.le_of_ble_eq_true rfl)⟩ (Nat.le_of_ble_eq_true rfl) ⟨(Nat.le_of_ble_eq_true rfl), (Nat.le_of_ble_eq_true rfl)⟩ dL_settings_209 rfl (fun H locs hw => ?_)
        refine jn_e hf (fun kk => ∀ (v_112 : Int32) (H : Heap) (locs : List Loc) (ls : Array Slot), HW (LW ex) X M s H locs → lv_has ls 14 [(0, .ref (X.2.2 0)), (5, .ref (X.2.2 145)), (10, .int r_2), (11, .int x11_108)] → kk v_112 = some rs → W p l e rm_L_settings s m args below meth c H locs 0 0 Q (F0 m 238 ls [.int v_112])) ?_ (fun k238_111 J238_111 hf => ?_)
        · intro v_112 H locs ls hw hl hf
          refine lv_istore (lv' := [(12, .int v_112), (0, .ref (X.2.2 0)), (5, .ref (X.2.2 145)), (10, .int r_2), (11, .int x11_108)]) hx hb dL_settings_238 hl (by decide) rfl (fun ls hl => ?_)
          refine lv_aload_n hx hb dL_settings_240 rfl (lv_at hl 1 rfl) ?_
          refine lv_iconst (v := (-1)) hx hb dL_settings_241 (by decide) ?_
          refine lv_iconst (v := 0) hx hb dL_settings_242 (by decide) ?_
          refine lv_iconst (v := 0) hx hb dL_settings_243 (by decide) ?_
          obtain ⟨r_114, M_115, h_113, hf⟩ := bm_e hf
          refine w_wrap (n := 4) (M' := M_115) (v := r_114) (As := [.ref (X.2.2 0), .int (-1), .int 0, .int 0]) (rest := []) B T N9 hw (c_L_setBounds l hfl _ X fu (-1) 0 0 M (r_114, M_115) h_113 _) km_L_187 kt_L_setBounds ki_L kc_L_setBounds ⟨by decide +kernel, by decide +kernel, by decide +kernel⟩ rfl hl.1 rfl rfl ⟨(Nat.le_of_ble_eq_true rfl), (Nat.le_of_ble_eq_true rfl)⟩ (Nat.le_of_ble_eq_true rfl) ⟨(Nat.le_of_ble_eq_true rfl), (Nat.le_of_ble_eq_true rfl)⟩ dL_settings_244 rfl (fun H locs hw => ?_)
          refine W.widen (k := 2) (n := 12) (by omega) (by omega) ?_
          refine lv_sipush (v := (-7100)) hx hb dL_settings_247 (by decide) ?_
          refine lv_icmp_ne (tgt := 311) hx hb dL_settings_250 (by decide) (fun c_116 => ?_) (fun c_116 => ?_)
          · have hf := ie_e hf c_116
            refine lv_iconst (v := 0) hx hb dL_settings_311 (by decide) ?_
            refine W.widen (k := 47) (n := 282) (by omega) (by omega) ?_
            cases hf
            subst hQ
            exact q_zret B hr hlk rfl hw rfl rfl dL_settings_312
          · have hf := it_e hf c_116
            refine lv_aload_n hx hb dL_settings_253 rfl (lv_at hl 1 rfl) ?_
            refine lv_iload hx hb dL_settings_254 (lv_at hl 3 rfl) ?_
            refine lv_iconst (v := 0) hx hb dL_settings_256 (by decide) ?_
            refine lv_iconst (v := 0) hx hb dL_settings_257 (by decide) ?_
            obtain ⟨r_118, M_119, h_117, hf⟩ := bm_e hf
            refine w_wrap (n := 4) (M' := M_119) (v := r_118) (As := [.ref (X.2.2 0), .int r_2, .int 0, .int 0]) (rest := []) B T N9 hw (c_L_setBounds l hfl _ X fu r_2 0 0 M_115 (r_118, M_119) h_117 _) km_L_187 kt_L_setBounds ki_L kc_L_setBounds ⟨by decide +kernel, by decide +kernel, by decide +kernel⟩ rfl hl.1 rfl rfl ⟨(Nat.le_of_ble_eq_true rfl), (Nat.le_of_ble_eq_true rfl)⟩ (Nat.le_of_ble_eq_true rfl) ⟨(Nat.le_of_ble_eq_true rfl), (Nat.le_of_ble_eq_true rfl)⟩ dL_settings_258 rfl (fun H locs hw => ?_)
            refine W.widen (k := 4) (n := 24) (by omega) (by omega) ?_
            refine lv_sipush (v := (-7200)) hx hb dL_settings_261 (by decide) ?_
            refine lv_icmp_ne (tgt := 311) hx hb dL_settings_264 (by decide) (fun c_120 => ?_) (fun c_120 => ?_)
            · have hf := ie_e hf c_120
              refine lv_iconst (v := 0) hx hb dL_settings_311 (by decide) ?_
              refine W.widen (k := 47) (n := 282) (by omega) (by omega) ?_
              cases hf
              subst hQ
              exact q_zret B hr hlk rfl hw rfl rfl dL_settings_312
            · have hf := it_e hf c_120
              refine lv_aload_n hx hb dL_settings_267 rfl (lv_at hl 1 rfl) ?_
              refine lv_iload hx hb dL_settings_268 (lv_at hl 3 rfl) ?_
              refine lv_bipush (v := 21) hx hb dL_settings_270 (by decide) ?_
              refine lv_iconst (v := 0) hx hb dL_settings_272 (by decide) ?_
              obtain ⟨r_122, M_123, h_121, hf⟩ := bm_e hf
              refine w_wrap (n := 4) (M' := M_123) (v := r_122) (As := [.ref (X.2.2 0), .int r_2, .int 21, .int 0]) (rest := []) B T N9 hw (c_L_setBounds l hfl _ X fu r_2 21 0 M_119 (r_122, M_123) h_121 _) km_L_187 kt_L_setBounds ki_L kc_L_setBounds ⟨by decide +kernel, by decide +kernel, by decide +kernel⟩ rfl hl.1 rfl rfl ⟨(Nat.le_of_ble_eq_true rfl), (Nat.le_of_ble_eq_true rfl)⟩ (Nat.le_of_ble_eq_true rfl) ⟨(Nat.le_of_ble_eq_true rfl), (Nat.le_of_ble_eq_true rfl)⟩ dL_settings_273 rfl (fun H locs hw => ?_)
              refine W.widen (k := 6) (n := 36) (by omega) (by omega) ?_
              refine lv_sipush (v := (-7200)) hx hb dL_settings_276 (by decide) ?_
              refine lv_icmp_ne (tgt := 311) hx hb dL_settings_279 (by decide) (fun c_124 => ?_) (fun c_124 => ?_)
              · have hf := ie_e hf c_124
                refine lv_iconst (v := 0) hx hb dL_settings_311 (by decide) ?_
                refine W.widen (k := 47) (n := 282) (by omega) (by omega) ?_
                cases hf
                subst hQ
                exact q_zret B hr hlk rfl hw rfl rfl dL_settings_312
              · have hf := it_e hf c_124
                refine lv_aload_n hx hb dL_settings_282 rfl (lv_at hl 1 rfl) ?_
                refine lv_iload hx hb dL_settings_283 (lv_at hl 3 rfl) ?_
                refine lv_iconst (v := 1) hx hb dL_settings_285 (by decide) ?_
                refine lv_bipush (v := 13) hx hb dL_settings_286 (by decide) ?_
                obtain ⟨r_126, M_127, h_125, hf⟩ := bm_e hf
                refine w_wrap (n := 4) (M' := M_127) (v := r_126) (As := [.ref (X.2.2 0), .int r_2, .int 1, .int 13]) (rest := []) B T N9 hw (c_L_setBounds l hfl _ X fu r_2 1 13 M_123 (r_126, M_127) h_125 _) km_L_187 kt_L_setBounds ki_L kc_L_setBounds ⟨by decide +kernel, by decide +kernel, by decide +kernel⟩ rfl hl.1 rfl rfl ⟨(Nat.le_of_ble_eq_true rfl), (Nat.le_of_ble_eq_true rfl)⟩ (Nat.le_of_ble_eq_true rfl) ⟨(Nat.le_of_ble_eq_true rfl), (Nat.le_of_ble_eq_true rfl)⟩ dL_settings_288 rfl (fun H locs hw => ?_)
                refine W.widen (k := 8) (n := 48) (by omega) (by omega) ?_
                refine lv_sipush (v := (-7200)) hx hb dL_settings_291 (by decide) ?_
                refine lv_icmp_ne (tgt := 311) hx hb dL_settings_294 (by decide) (fun c_128 => ?_) (fun c_128 => ?_)
                · have hf := ie_e hf c_128
                  refine lv_iconst (v := 0) hx hb dL_settings_311 (by decide) ?_
                  refine W.widen (k := 47) (n := 282) (by omega) (by omega) ?_
                  cases hf
                  subst hQ
                  exact q_zret B hr hlk rfl hw rfl rfl dL_settings_312
                · have hf := it_e hf c_128
                  refine lv_aload_n hx hb dL_settings_297 rfl (lv_at hl 1 rfl) ?_
                  refine lv_iload hx hb dL_settings_298 (lv_at hl 3 rfl) ?_
                  refine lv_iconst (v := 1) hx hb dL_settings_300 (by decide) ?_
                  refine lv_iconst (v := (-1)) hx hb dL_settings_301 (by decide) ?_
                  obtain ⟨r_130, M_131, h_129, hf⟩ := bm_e hf
                  refine w_wrap (n := 4) (M' := M_131) (v := r_130) (As := [.ref (X.2.2 0), .int r_2, .int 1, .int (-1)]) (rest := []) B T N9 hw (c_L_setBounds l hfl _ X fu r_2 1 (-1) M_127 (r_130, M_131) h_129 _) km_L_187 kt_L_setBounds ki_L kc_L_setBounds ⟨by decide +kernel, by decide +kernel, by decide +kernel⟩ rfl hl.1 rfl rfl ⟨(Nat.le_of_ble_eq_true rfl), (Nat.le_of_ble_eq_true rfl)⟩ (Nat.le_of_ble_eq_true rfl) ⟨(Nat.le_of_ble_eq_true rfl), (Nat.le_of_ble_eq_true rfl)⟩ dL_settings_302 rfl (fun H locs hw => ?_)
                  refine W.widen (k := 10) (n := 60) (by omega) (by omega) ?_
                  refine lv_sipush (v := (-7200)) hx hb dL_settings_305 (by decide) ?_
                  refine lv_icmp_eq (tgt := 313) hx hb dL_settings_308 (by decide) (fun c_132 => ?_) (fun c_132 => ?_)
                  · have hf := it_e hf c_132
                    refine lv_aload hx hb dL_settings_313 (lv_at hl 2 rfl) ?_
                    refine lv_bipush (v := 6) hx hb dL_settings_315 (by decide) ?_
                    refine lv_iload hx hb dL_settings_317 (lv_at hl 3 rfl) ?_
                    refine lv_iadd hx hb dL_settings_319 ?_
                    obtain ⟨g_133, hf⟩ := grd_e hf
                    refine w_iald B hw (i := 145) (kw145 _) g_133 dL_settings_320 ?_
                    refine r_topn hf (fun x13_134 hf => ?_)
                    refine lv_istore (lv' := [(13, .int x13_134), (12, .int v_112), (0, .ref (X.2.2 0)), (5, .ref (X.2.2 145)), (10, .int r_2), (11, .int x11_108)]) hx hb dL_settings_321 hl (by decide) rfl (fun ls hl => ?_)
                    refine lv_aload hx hb dL_settings_323 (lv_at hl 3 rfl) ?_
                    refine lv_bipush (v := 6) hx hb dL_settings_325 (by decide) ?_
                    refine lv_iload hx hb dL_settings_327 (lv_at hl 4 rfl) ?_
                    refine lv_iadd hx hb dL_settings_329 ?_
                    refine lv_iload hx hb dL_settings_330 (lv_at hl 5 rfl) ?_
                    refine w_iast B hw (i := 145) (kw145 _) g_133 dL_settings_332 hf (fun M_135 H locs hw hf => ?_)
                    refine lv_aload hx hb dL_settings_333 (lv_at hl 3 rfl) ?_
                    refine lv_bipush (v := 9) hx hb dL_settings_335 (by decide) ?_
                    refine lv_iload hx hb dL_settings_337 (lv_at hl 4 rfl) ?_
                    refine lv_iadd hx hb dL_settings_339 ?_
                    refine lv_iload hx hb dL_settings_340 (lv_at hl 1 rfl) ?_
                    obtain ⟨g_136, hf⟩ := grd_e hf
                    refine w_iast B hw (i := 145) (kw145 _) g_136 dL_settings_342 hf (fun M_137 H locs hw hf => ?_)
                    refine lv_aload_n hx hb dL_settings_343 rfl (lv_at hl 2 rfl) ?_
                    refine lv_iload hx hb dL_settings_344 (lv_at hl 4 rfl) ?_
                    refine lv_iload hx hb dL_settings_346 (lv_at hl 5 rfl) ?_
                    refine lv_iload hx hb dL_settings_348 (lv_at hl 1 rfl) ?_
                    obtain ⟨r_139, M_140, h_138, hf⟩ := bm_e hf
                    refine w_wrap (n := 4) (M' := M_140) (v := r_139) (As := [.ref (X.2.2 0), .int r_2, .int x11_108, .int v_112]) (rest := []) B T N9 hw (c_L_setBounds l hfl _ X fu r_2 x11_108 v_112 M_137 (r_139, M_140) h_138 _) km_L_187 kt_L_setBounds ki_L kc_L_setBounds ⟨by decide +kernel, by decide +kernel, by decide +kernel⟩ rfl hl.1 rfl rfl ⟨(Nat.le_of_ble_eq_true rfl), (Nat.le_of_ble_eq_true rfl)⟩ (Nat.le_of_ble_eq_true rfl) ⟨(Nat.le_of_ble_eq_true rfl), (Nat.le_of_ble_eq_true rfl)⟩ dL_settings_350 rfl (fun H locs hw => ?_)
                    refine W.widen (k := 12) (n := 72) (by omega) (by omega) ?_
                    refine lv_iload hx hb dL_settings_353 (lv_at hl 0 rfl) ?_
                    refine lv_icmp_ne (tgt := 362) hx hb dL_settings_355 (by decide) (fun c_141 => ?_) (fun c_141 => ?_)
                    · have hf := ie_e hf c_141
                      refine lv_iconst (v := 0) hx hb dL_settings_362 (by decide) ?_
                      refine W.widen (k := 47) (n := 282) (by omega) (by omega) ?_
                      cases hf
                      subst hQ
                      exact q_zret B hr hlk rfl hw rfl rfl dL_settings_363
                    · have hf := it_e hf c_141
                      refine lv_iconst (v := 1) hx hb dL_settings_358 (by decide) ?_
                      refine lv_goto (tgt := 363) hx hb dL_settings_359 (by decide) ?_
                      refine W.widen (k := 47) (n := 282) (by omega) (by omega) ?_
                      cases hf
                      subst hQ
                      exact q_zret B hr hlk rfl hw rfl rfl dL_settings_363
                  · have hf := ie_e hf c_132
                    refine lv_iconst (v := 0) hx hb dL_settings_311 (by decide) ?_
                    refine W.widen (k := 47) (n := 282) (by omega) (by omega) ?_
                    cases hf
                    subst hQ
                    exact q_zret B hr hlk rfl hw rfl rfl dL_settings_312
        refine lv_if_ne (tgt := 227) hx hb dL_settings_212 (by decide) (fun c_142 => ?_) (fun c_142 => ?_)
        · have hf := ie_e hf c_142
          refine lv_bipush (v := 8) hx hb dL_settings_227 (by decide) ?_
          refine lv_iload_n hx hb dL_settings_229 rfl (lv_at hl 5 rfl) ?_
          refine lv_bipush (v := 12) hx hb dL_settings_230 (by decide) ?_
          refine lv_ishr hx hb dL_settings_232 ?_
          refine lv_iconst (v := 5) hx hb dL_settings_233 (by decide) ?_
          obtain ⟨r_144, h_143, hf⟩ := bd_e hf
          refine q_callSi (M' := M) (As := [.int (p3 >>> (12 &&& 31)), .int 5]) (rest := [.int 8]) B hw (c_L_low l _ X fu (p3 >>> (12 &&& 31)) 5 M r_144 h_143 _) cs_L_130 rfl hl.1 rfl rfl ⟨(Nat.le_of_ble_eq_true rfl), (Nat.le_of_ble_eq_true rfl)⟩ (Nat.le_of_ble_eq_true rfl) ⟨(Nat.le_of_ble_eq_true rfl), (Nat.le_of_ble_eq_true rfl)⟩ dL_settings_234 rfl (fun H locs hw => ?_)
          refine lv_iadd hx hb dL_settings_237 ?_
          exact J238_111 (8 + r_144) _ _ _ hw (lv_sub hl [2, 7, 1, 0] rfl) hf
        · have hf := it_e hf c_142
          refine lv_iload_n hx hb dL_settings_215 rfl (lv_at hl 5 rfl) ?_
          refine lv_bipush (v := 12) hx hb dL_settings_216 (by decide) ?_
          refine lv_ishr hx hb dL_settings_218 ?_
          refine lv_bipush (v := 13) hx hb dL_settings_219 (by decide) ?_
          obtain ⟨r_146, h_145, hf⟩ := bd_e hf
          refine q_callSi (M' := M) (As := [.int (p3 >>> (12 &&& 31)), .int 13]) (rest := []) B hw (c_L_low l _ X fu (p3 >>> (12 &&& 31)) 13 M r_146 h_145 _) cs_L_130 rfl hl.1 rfl rfl ⟨(Nat.le_of_ble_eq_true rfl), (Nat.le_of_ble_eq_true rfl)⟩ (Nat.le_of_ble_eq_true rfl) ⟨(Nat.le_of_ble_eq_true rfl), (Nat.le_of_ble_eq_true rfl)⟩ dL_settings_221 rfl (fun H locs hw => ?_)
          refine lv_goto (tgt := 238) hx hb dL_settings_224 (by decide) ?_
          exact J238_111 r_146 _ _ _ hw (lv_sub hl [2, 7, 1, 0] rfl) hf
  · have hf := it_e hf c_3
    refine lv_iload_n hx hb dL_settings_11 rfl (lv_at hl 4 rfl) ?_
    refine lv_iconst (v := 5) hx hb dL_settings_12 (by decide) ?_
    obtain ⟨r_148, h_147, hf⟩ := bd_e hf
    refine q_callSi (M' := M) (As := [.int p3, .int 5]) (rest := []) B hw (c_L_low l _ X fu p3 5 M r_148 h_147 _) cs_L_130 rfl hl.1 rfl rfl ⟨(Nat.le_of_ble_eq_true rfl), (Nat.le_of_ble_eq_true rfl)⟩ (Nat.le_of_ble_eq_true rfl) ⟨(Nat.le_of_ble_eq_true rfl), (Nat.le_of_ble_eq_true rfl)⟩ dL_settings_13 rfl (fun H locs hw => ?_)
    refine jn_e hf (fun kk => ∀ (v_150 : Int32) (H : Heap) (locs : List Loc) (ls : Array Slot), HW (LW ex) X M s H locs → lv_has ls 14 [(0, .ref (X.2.2 0)), (3, .int p3), (5, .ref (X.2.2 145)), (10, .int r_2)] → kk v_150 = some rs → W p l e rm_L_settings s m args below meth c H locs 0 0 Q (F0 m 37 ls [.int v_150])) ?_ (fun k37_149 J37_149 hf => ?_)
    · intro v_150 H locs ls hw hl hf
      refine lv_istore (lv' := [(11, .int v_150), (0, .ref (X.2.2 0)), (3, .int p3), (5, .ref (X.2.2 145)), (10, .int r_2)]) hx hb dL_settings_37 hl (by decide) rfl (fun ls hl => ?_)
      refine lv_iload_n hx hb dL_settings_39 rfl (lv_at hl 2 rfl) ?_
      refine lv_bipush (v := 9) hx hb dL_settings_40 (by decide) ?_
      refine lv_ishr hx hb dL_settings_42 ?_
      refine lv_iconst (v := 3) hx hb dL_settings_43 (by decide) ?_
      obtain ⟨r_152, h_151, hf⟩ := bd_e hf
      refine q_callSi (M' := M) (As := [.int (p3 >>> (9 &&& 31)), .int 3]) (rest := []) B hw (c_L_low l _ X fu (p3 >>> (9 &&& 31)) 3 M r_152 h_151 _) cs_L_130 rfl hl.1 rfl rfl ⟨(Nat.le_of_ble_eq_true rfl), (Nat.le_of_ble_eq_true rfl)⟩ (Nat.le_of_ble_eq_true rfl) ⟨(Nat.le_of_ble_eq_true rfl), (Nat.le_of_ble_eq_true rfl)⟩ dL_settings_44 rfl (fun H locs hw => ?_)
      refine jn_e hf (fun kk => ∀ (v_154 : Int32) (H : Heap) (locs : List Loc) (ls : Array Slot), HW (LW ex) X M s H locs → lv_has ls 14 [(0, .ref (X.2.2 0)), (5, .ref (X.2.2 145)), (10, .int r_2), (11, .int v_150)] → kk v_154 = some rs → W p l e rm_L_settings s m args below meth c H locs 0 0 Q (F0 m 71 ls [.int v_154])) ?_ (fun k71_153 J71_153 hf => ?_)
      · intro v_154 H locs ls hw hl hf
        refine lv_istore (lv' := [(12, .int v_154), (0, .ref (X.2.2 0)), (5, .ref (X.2.2 145)), (10, .int r_2), (11, .int v_150)]) hx hb dL_settings_71 hl (by decide) rfl (fun ls hl => ?_)
        refine lv_aload_n hx hb dL_settings_73 rfl (lv_at hl 1 rfl) ?_
        refine lv_iconst (v := 3) hx hb dL_settings_74 (by decide) ?_
        refine lv_bipush (v := 31) hx hb dL_settings_75 (by decide) ?_
        refine lv_iconst (v := 0) hx hb dL_settings_77 (by decide) ?_
        obtain ⟨r_156, M_157, h_155, hf⟩ := bm_e hf
        refine w_wrap (n := 4) (M' := M_157) (v := r_156) (As := [.ref (X.2.2 0), .int 3, .int 31, .int 0]) (rest := []) B T N9 hw (c_L_setPace l hfl _ X fu 3 31 0 M (r_156, M_157) h_155 _) km_L_184 kt_L_setPace ki_L kc_L_setPace ⟨by decide +kernel, by decide +kernel, by decide +kernel⟩ rfl hl.1 rfl rfl ⟨(Nat.le_of_ble_eq_true rfl), (Nat.le_of_ble_eq_true rfl)⟩ (Nat.le_of_ble_eq_true rfl) ⟨(Nat.le_of_ble_eq_true rfl), (Nat.le_of_ble_eq_true rfl)⟩ dL_settings_78 rfl (fun H locs hw => ?_)
        refine W.widen (k := 2) (n := 12) (by omega) (by omega) ?_
        refine lv_sipush (v := (-7100)) hx hb dL_settings_81 (by decide) ?_
        refine lv_icmp_ne (tgt := 131) hx hb dL_settings_84 (by decide) (fun c_158 => ?_) (fun c_158 => ?_)
        · have hf := ie_e hf c_158
          refine lv_iconst (v := 0) hx hb dL_settings_131 (by decide) ?_
          refine W.widen (k := 47) (n := 282) (by omega) (by omega) ?_
          cases hf
          subst hQ
          exact q_zret B hr hlk rfl hw rfl rfl dL_settings_132
        · have hf := it_e hf c_158
          refine lv_aload_n hx hb dL_settings_87 rfl (lv_at hl 1 rfl) ?_
          refine lv_iload hx hb dL_settings_88 (lv_at hl 3 rfl) ?_
          refine lv_bipush (v := 31) hx hb dL_settings_90 (by decide) ?_
          refine lv_iconst (v := 0) hx hb dL_settings_92 (by decide) ?_
          obtain ⟨r_160, M_161, h_159, hf⟩ := bm_e hf
          refine w_wrap (n := 4) (M' := M_161) (v := r_160) (As := [.ref (X.2.2 0), .int r_2, .int 31, .int 0]) (rest := []) B T N9 hw (c_L_setPace l hfl _ X fu r_2 31 0 M_157 (r_160, M_161) h_159 _) km_L_184 kt_L_setPace ki_L kc_L_setPace ⟨by decide +kernel, by decide +kernel, by decide +kernel⟩ rfl hl.1 rfl rfl ⟨(Nat.le_of_ble_eq_true rfl), (Nat.le_of_ble_eq_true rfl)⟩ (Nat.le_of_ble_eq_true rfl) ⟨(Nat.le_of_ble_eq_true rfl), (Nat.le_of_ble_eq_true rfl)⟩ dL_settings_93 rfl (fun H locs hw => ?_)
          refine W.widen (k := 4) (n := 24) (by omega) (by omega) ?_
          refine lv_sipush (v := (-7200)) hx hb dL_settings_96 (by decide) ?_
          refine lv_icmp_ne (tgt := 131) hx hb dL_settings_99 (by decide) (fun c_162 => ?_) (fun c_162 => ?_)
          · have hf := ie_e hf c_162
            refine lv_iconst (v := 0) hx hb dL_settings_131 (by decide) ?_
            refine W.widen (k := 47) (n := 282) (by omega) (by omega) ?_
            cases hf
            subst hQ
            exact q_zret B hr hlk rfl hw rfl rfl dL_settings_132
          · have hf := it_e hf c_162
            refine lv_aload_n hx hb dL_settings_102 rfl (lv_at hl 1 rfl) ?_
            refine lv_iload hx hb dL_settings_103 (lv_at hl 3 rfl) ?_
            refine lv_iconst (v := 0) hx hb dL_settings_105 (by decide) ?_
            refine lv_bipush (v := 61) hx hb dL_settings_106 (by decide) ?_
            obtain ⟨r_164, M_165, h_163, hf⟩ := bm_e hf
            refine w_wrap (n := 4) (M' := M_165) (v := r_164) (As := [.ref (X.2.2 0), .int r_2, .int 0, .int 61]) (rest := []) B T N9 hw (c_L_setPace l hfl _ X fu r_2 0 61 M_161 (r_164, M_165) h_163 _) km_L_184 kt_L_setPace ki_L kc_L_setPace ⟨by decide +kernel, by decide +kernel, by decide +kernel⟩ rfl hl.1 rfl rfl ⟨(Nat.le_of_ble_eq_true rfl), (Nat.le_of_ble_eq_true rfl)⟩ (Nat.le_of_ble_eq_true rfl) ⟨(Nat.le_of_ble_eq_true rfl), (Nat.le_of_ble_eq_true rfl)⟩ dL_settings_108 rfl (fun H locs hw => ?_)
            refine W.widen (k := 6) (n := 36) (by omega) (by omega) ?_
            refine lv_sipush (v := (-7200)) hx hb dL_settings_111 (by decide) ?_
            refine lv_icmp_ne (tgt := 131) hx hb dL_settings_114 (by decide) (fun c_166 => ?_) (fun c_166 => ?_)
            · have hf := ie_e hf c_166
              refine lv_iconst (v := 0) hx hb dL_settings_131 (by decide) ?_
              refine W.widen (k := 47) (n := 282) (by omega) (by omega) ?_
              cases hf
              subst hQ
              exact q_zret B hr hlk rfl hw rfl rfl dL_settings_132
            · have hf := it_e hf c_166
              refine lv_aload_n hx hb dL_settings_117 rfl (lv_at hl 1 rfl) ?_
              refine lv_iload hx hb dL_settings_118 (lv_at hl 3 rfl) ?_
              refine lv_iconst (v := (-1)) hx hb dL_settings_120 (by decide) ?_
              refine lv_iconst (v := 0) hx hb dL_settings_121 (by decide) ?_
              obtain ⟨r_168, M_169, h_167, hf⟩ := bm_e hf
              refine w_wrap (n := 4) (M' := M_169) (v := r_168) (As := [.ref (X.2.2 0), .int r_2, .int (-1), .int 0]) (rest := []) B T N9 hw (c_L_setPace l hfl _ X fu r_2 (-1) 0 M_165 (r_168, M_169) h_167 _) km_L_184 kt_L_setPace ki_L kc_L_setPace ⟨by decide +kernel, by decide +kernel, by decide +kernel⟩ rfl hl.1 rfl rfl ⟨(Nat.le_of_ble_eq_true rfl), (Nat.le_of_ble_eq_true rfl)⟩ (Nat.le_of_ble_eq_true rfl) ⟨(Nat.le_of_ble_eq_true rfl), (Nat.le_of_ble_eq_true rfl)⟩ dL_settings_122 rfl (fun H locs hw => ?_)
              refine W.widen (k := 8) (n := 48) (by omega) (by omega) ?_
              refine lv_sipush (v := (-7200)) hx hb dL_settings_125 (by decide) ?_
              refine lv_icmp_eq (tgt := 133) hx hb dL_settings_128 (by decide) (fun c_170 => ?_) (fun c_170 => ?_)
              · have hf := it_e hf c_170
                refine lv_aload hx hb dL_settings_133 (lv_at hl 2 rfl) ?_
                refine lv_iload hx hb dL_settings_135 (lv_at hl 3 rfl) ?_
                obtain ⟨g_171, hf⟩ := grd_e hf
                refine w_iald B hw (i := 145) (kw145 _) g_171 dL_settings_137 ?_
                refine r_topn hf (fun x13_172 hf => ?_)
                refine lv_istore (lv' := [(13, .int x13_172), (12, .int v_154), (0, .ref (X.2.2 0)), (5, .ref (X.2.2 145)), (10, .int r_2), (11, .int v_150)]) hx hb dL_settings_138 hl (by decide) rfl (fun ls hl => ?_)
                refine lv_aload hx hb dL_settings_140 (lv_at hl 3 rfl) ?_
                refine lv_iload hx hb dL_settings_142 (lv_at hl 4 rfl) ?_
                refine lv_iload hx hb dL_settings_144 (lv_at hl 5 rfl) ?_
                refine w_iast B hw (i := 145) (kw145 _) g_171 dL_settings_146 hf (fun M_173 H locs hw hf => ?_)
                refine lv_aload hx hb dL_settings_147 (lv_at hl 3 rfl) ?_
                refine lv_iconst (v := 3) hx hb dL_settings_149 (by decide) ?_
                refine lv_iload hx hb dL_settings_150 (lv_at hl 4 rfl) ?_
                refine lv_iadd hx hb dL_settings_152 ?_
                refine lv_iload hx hb dL_settings_153 (lv_at hl 1 rfl) ?_
                obtain ⟨g_174, hf⟩ := grd_e hf
                refine w_iast B hw (i := 145) (kw145 _) g_174 dL_settings_155 hf (fun M_175 H locs hw hf => ?_)
                refine lv_aload_n hx hb dL_settings_156 rfl (lv_at hl 2 rfl) ?_
                refine lv_iload hx hb dL_settings_157 (lv_at hl 4 rfl) ?_
                refine lv_iload hx hb dL_settings_159 (lv_at hl 5 rfl) ?_
                refine lv_iload hx hb dL_settings_161 (lv_at hl 1 rfl) ?_
                obtain ⟨r_177, M_178, h_176, hf⟩ := bm_e hf
                refine w_wrap (n := 4) (M' := M_178) (v := r_177) (As := [.ref (X.2.2 0), .int r_2, .int v_150, .int v_154]) (rest := []) B T N9 hw (c_L_setPace l hfl _ X fu r_2 v_150 v_154 M_175 (r_177, M_178) h_176 _) km_L_184 kt_L_setPace ki_L kc_L_setPace ⟨by decide +kernel, by decide +kernel, by decide +kernel⟩ rfl hl.1 rfl rfl ⟨(Nat.le_of_ble_eq_true rfl), (Nat.le_of_ble_eq_true rfl)⟩ (Nat.le_of_ble_eq_true rfl) ⟨(Nat.le_of_ble_eq_true rfl), (Nat.le_of_ble_eq_true rfl)⟩ dL_settings_163 rfl (fun H locs hw => ?_)
                refine W.widen (k := 10) (n := 60) (by omega) (by omega) ?_
                refine lv_iload hx hb dL_settings_166 (lv_at hl 0 rfl) ?_
                refine lv_icmp_ne (tgt := 175) hx hb dL_settings_168 (by decide) (fun c_179 => ?_) (fun c_179 => ?_)
                · have hf := ie_e hf c_179
                  refine lv_iconst (v := 0) hx hb dL_settings_175 (by decide) ?_
                  refine W.widen (k := 47) (n := 282) (by omega) (by omega) ?_
                  cases hf
                  subst hQ
                  exact q_zret B hr hlk rfl hw rfl rfl dL_settings_176
                · have hf := it_e hf c_179
                  refine lv_iconst (v := 1) hx hb dL_settings_171 (by decide) ?_
                  refine lv_goto (tgt := 176) hx hb dL_settings_172 (by decide) ?_
                  refine W.widen (k := 47) (n := 282) (by omega) (by omega) ?_
                  cases hf
                  subst hQ
                  exact q_zret B hr hlk rfl hw rfl rfl dL_settings_176
              · have hf := ie_e hf c_170
                refine lv_iconst (v := 0) hx hb dL_settings_131 (by decide) ?_
                refine W.widen (k := 47) (n := 282) (by omega) (by omega) ?_
                cases hf
                subst hQ
                exact q_zret B hr hlk rfl hw rfl rfl dL_settings_132
      refine lv_if_ne (tgt := 62) hx hb dL_settings_47 (by decide) (fun c_180 => ?_) (fun c_180 => ?_)
      · have hf := ie_e hf c_180
        refine lv_iload_n hx hb dL_settings_62 rfl (lv_at hl 2 rfl) ?_
        refine lv_bipush (v := 11) hx hb dL_settings_63 (by decide) ?_
        refine lv_ishr hx hb dL_settings_65 ?_
        refine lv_bipush (v := 6) hx hb dL_settings_66 (by decide) ?_
        obtain ⟨r_182, h_181, hf⟩ := bd_e hf
        refine q_callSi (M' := M) (As := [.int (p3 >>> (11 &&& 31)), .int 6]) (rest := []) B hw (c_L_low l _ X fu (p3 >>> (11 &&& 31)) 6 M r_182 h_181 _) cs_L_130 rfl hl.1 rfl rfl ⟨(Nat.le_of_ble_eq_true rfl), (Nat.le_of_ble_eq_true rfl)⟩ (Nat.le_of_ble_eq_true rfl) ⟨(Nat.le_of_ble_eq_true rfl), (Nat.le_of_ble_eq_true rfl)⟩ dL_settings_68 rfl (fun H locs hw => ?_)
        exact J71_153 r_182 _ _ _ hw (lv_sub hl [1, 3, 4, 0] rfl) hf
      · have hf := it_e hf c_180
        refine lv_iload_n hx hb dL_settings_50 rfl (lv_at hl 2 rfl) ?_
        refine lv_bipush (v := 11) hx hb dL_settings_51 (by decide) ?_
        refine lv_ishr hx hb dL_settings_53 ?_
        refine lv_bipush (v := 61) hx hb dL_settings_54 (by decide) ?_
        obtain ⟨r_184, h_183, hf⟩ := bd_e hf
        refine q_callSi (M' := M) (As := [.int (p3 >>> (11 &&& 31)), .int 61]) (rest := []) B hw (c_L_low l _ X fu (p3 >>> (11 &&& 31)) 61 M r_184 h_183 _) cs_L_130 rfl hl.1 rfl rfl ⟨(Nat.le_of_ble_eq_true rfl), (Nat.le_of_ble_eq_true rfl)⟩ (Nat.le_of_ble_eq_true rfl) ⟨(Nat.le_of_ble_eq_true rfl), (Nat.le_of_ble_eq_true rfl)⟩ dL_settings_56 rfl (fun H locs hw => ?_)
        refine lv_goto (tgt := 71) hx hb dL_settings_59 (by decide) ?_
        exact J71_153 r_184 _ _ _ hw (lv_sub hl [1, 3, 4, 0] rfl) hf
    refine lv_if_ne (tgt := 30) hx hb dL_settings_16 (by decide) (fun c_185 => ?_) (fun c_185 => ?_)
    · have hf := ie_e hf c_185
      refine lv_iload_n hx hb dL_settings_30 rfl (lv_at hl 4 rfl) ?_
      refine lv_iconst (v := 3) hx hb dL_settings_31 (by decide) ?_
      refine lv_ishr hx hb dL_settings_32 ?_
      refine lv_iconst (v := 3) hx hb dL_settings_33 (by decide) ?_
      obtain ⟨r_187, h_186, hf⟩ := bd_e hf
      refine q_callSi (M' := M) (As := [.int (p3 >>> (3 &&& 31)), .int 3]) (rest := []) B hw (c_L_low l _ X fu (p3 >>> (3 &&& 31)) 3 M r_187 h_186 _) cs_L_130 rfl hl.1 rfl rfl ⟨(Nat.le_of_ble_eq_true rfl), (Nat.le_of_ble_eq_true rfl)⟩ (Nat.le_of_ble_eq_true rfl) ⟨(Nat.le_of_ble_eq_true rfl), (Nat.le_of_ble_eq_true rfl)⟩ dL_settings_34 rfl (fun H locs hw => ?_)
      exact J37_149 r_187 _ _ _ hw (lv_sub hl [1, 4, 6, 0] rfl) hf
    · have hf := it_e hf c_185
      refine lv_iload_n hx hb dL_settings_19 rfl (lv_at hl 4 rfl) ?_
      refine lv_iconst (v := 3) hx hb dL_settings_20 (by decide) ?_
      refine lv_ishr hx hb dL_settings_21 ?_
      refine lv_bipush (v := 31) hx hb dL_settings_22 (by decide) ?_
      obtain ⟨r_189, h_188, hf⟩ := bd_e hf
      refine q_callSi (M' := M) (As := [.int (p3 >>> (3 &&& 31)), .int 31]) (rest := []) B hw (c_L_low l _ X fu (p3 >>> (3 &&& 31)) 31 M r_189 h_188 _) cs_L_130 rfl hl.1 rfl rfl ⟨(Nat.le_of_ble_eq_true rfl), (Nat.le_of_ble_eq_true rfl)⟩ (Nat.le_of_ble_eq_true rfl) ⟨(Nat.le_of_ble_eq_true rfl), (Nat.le_of_ble_eq_true rfl)⟩ dL_settings_24 rfl (fun H locs hw => ?_)
      refine lv_goto (tgt := 37) hx hb dL_settings_27 (by decide) ?_
      exact J37_149 r_189 _ _ _ hw (lv_sub hl [1, 4, 6, 0] rfl) hf
