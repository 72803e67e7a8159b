abbrev rm_L_entry : Room := { frames := 2, cells := 0, slots := 0, locals := 44 }
set_option maxRecDepth 100000 in
set_option maxHeartbeats 8000000 in
theorem c_L_entry (l : Launch) (ex : List (Nat × Nat)) (X : XT) (fu : Nat) (p3 : Int32) (M : Mem)  (rs : Int32) (hf : f_L_entry fu p3 M = some rs) (sz : Nat) : Met l yL_entry (wbig yL_entry cL_entry 9 (some .int)) rm_L_entry (va_Pc [.ref (X.2.2 146), .ref (X.2.2 147), .ref (X.2.2 152), .int p3] (PW (LW ex) X M sz)) (QI (LW ex) X M rs sz) 0 0 (AX (LW ex) X sz) := by
  refine met_go (L := (LW ex)) (M := M) (by decide +kernel) (Nat.le_of_ble_eq_true rfl) ?_
  intro p e s m args below meth c hsz B hr hlk hw ls hl
  subst hsz
  have hx := B.hx
  have hb := B.hb
  have hl : lv_has ls 9 [(0, .ref (X.2.2 146)), (1, .ref (X.2.2 147)), (2, .ref (X.2.2 152)), (3, .int p3)] := hl
  generalize hQ : MQ below _ args s 0 0 (AX (LW ex) X s.heap.size) = Q
  unfold f_L_entry at hf
  refine lv_aload_n hx hb dL_entry_0 rfl (lv_at hl 2 rfl) ?_
  refine lv_iconst (v := 3) hx hb dL_entry_1 (by decide) ?_
  refine w_iald B hw (i := 152) (kw152 _) (by decide) dL_entry_2 ?_
  refine lv_iconst (v := 1) hx hb dL_entry_3 (by decide) ?_
  refine lv_isub hx hb dL_entry_4 ?_
  refine r_topn hf (fun x4_1 hf => ?_)
  refine lv_istore (lv' := [(4, .int x4_1), (0, .ref (X.2.2 146)), (1, .ref (X.2.2 147)), (2, .ref (X.2.2 152)), (3, .int p3)]) hx hb dL_entry_5 hl (by decide) rfl (fun ls hl => ?_)
  have hL_7 : ∀ (n_7 : Nat) (x4_2 : Int32) (H : Heap) (locs : List Loc) (ls : Array Slot), HW (LW ex) X M s H locs → lv_has ls 9 [(0, .ref (X.2.2 146)), (1, .ref (X.2.2 147)), (2, .ref (X.2.2 152)), (3, .int p3), (4, .int x4_2)] → f_L_entry_L7 fu p3 M n_7 x4_2 = some rs → W p l e rm_L_entry s m args below meth c H locs 0 0 Q (F0 m 7 ls []) := by
    intro n_7
    induction n_7 with
    | zero => intro x4_2 H locs ls hw hl hf; exact no_none hf
    | succ n_7 ih_7 =>
      intro x4_2 H locs ls hw hl hf
      rw [f_L_entry_L7] at hf
      refine lv_iload hx hb dL_entry_7 (lv_at hl 4 rfl) ?_
      refine lv_if_lt (tgt := 193) hx hb dL_entry_9 (by decide) (fun c_3 => ?_) (fun c_3 => ?_)
      · have hf := it_e hf c_3
        refine lv_iconst (v := (-1)) hx hb dL_entry_193 (by decide) ?_
        cases hf
        subst hQ
        exact q_iret B hr hlk hw rfl rfl dL_entry_194
      · have hf := ie_e hf c_3
        refine lv_aload_n hx hb dL_entry_12 rfl (lv_at hl 1 rfl) ?_
        refine lv_bipush (v := 8) hx hb dL_entry_13 (by decide) ?_
        refine lv_iload hx hb dL_entry_15 (lv_at hl 4 rfl) ?_
        refine lv_imul hx hb dL_entry_17 ?_
        obtain ⟨g_4, hf⟩ := grd_e hf
        refine w_iald B hw (i := 147) (kw147 _) g_4 dL_entry_18 ?_
        refine lv_aload_n hx hb dL_entry_19 rfl (lv_at hl 0 rfl) ?_
        refine lv_bipush (v := 6) hx hb dL_entry_20 (by decide) ?_
        refine lv_iload_n hx hb dL_entry_22 rfl (lv_at hl 3 rfl) ?_
        refine lv_iadd hx hb dL_entry_23 ?_
        obtain ⟨g_5, hf⟩ := grd_e hf
        refine w_iald B hw (i := 146) (kw146 _) g_5 dL_entry_24 ?_
        refine jn_e hf (fun kk => ∀ (v_7 : Int32) (H : Heap) (locs : List Loc) (ls : Array Slot), HW (LW ex) X M s H locs → lv_has ls 9 [(0, .ref (X.2.2 146)), (1, .ref (X.2.2 147)), (2, .ref (X.2.2 152)), (3, .int p3), (4, .int x4_2)] → kk v_7 = some rs → W p l e rm_L_entry s m args below meth c H locs 0 0 Q (F0 m 52 ls [.int v_7])) ?_ (fun k52_6 J52_6 hf => ?_)
        · intro v_7 H locs ls hw hl hf
          refine lv_istore (lv' := [(5, .int v_7), (0, .ref (X.2.2 146)), (1, .ref (X.2.2 147)), (2, .ref (X.2.2 152)), (3, .int p3), (4, .int x4_2)]) hx hb dL_entry_52 hl (by decide) rfl (fun ls hl => ?_)
          refine lv_iconst (v := 4) hx hb dL_entry_54 (by decide) ?_
          refine lv_istore (lv' := [(6, .int 4), (5, .int v_7), (0, .ref (X.2.2 146)), (1, .ref (X.2.2 147)), (2, .ref (X.2.2 152)), (3, .int p3), (4, .int x4_2)]) hx hb dL_entry_55 hl (by decide) rfl (fun ls hl => ?_)
          refine jn_e hf (fun kk => ∀ (x5_9 : Int32) (H : Heap) (locs : List Loc) (ls : Array Slot), HW (LW ex) X M s H locs → lv_has ls 9 [(0, .ref (X.2.2 146)), (1, .ref (X.2.2 147)), (2, .ref (X.2.2 152)), (3, .int p3), (4, .int x4_2), (5, .int x5_9)] → kk x5_9 = some rs → W p l e rm_L_entry s m args below meth c H locs 0 0 Q (F0 m 179 ls [])) ?_ (fun k179_8 J179_8 hf => ?_)
          · intro x5_9 H locs ls hw hl hf
            refine lv_iload hx hb dL_entry_179 (lv_at hl 5 rfl) ?_
            refine lv_if_eq (tgt := 187) hx hb dL_entry_181 (by decide) (fun c_10 => ?_) (fun c_10 => ?_)
            · have hf := it_e hf c_10
              refine r_iinc (v := (x4_2 + (-1))) hx hb dL_entry_187 hl (k := 4) rfl rfl (by decide) hf (fun x4_11 ls hl hf => ?_)
              have hl : lv_has ls 9 [(4, .int x4_11), (0, .ref (X.2.2 146)), (1, .ref (X.2.2 147)), (2, .ref (X.2.2 152)), (3, .int p3), (5, .int x5_9)] := hl
              refine lv_goto (tgt := 7) hx hb dL_entry_190 (by decide) ?_
              exact ih_7 x4_11 _ _ _ hw (lv_sub hl [1, 2, 3, 4, 0] rfl) hf
            · have hf := ie_e hf c_10
              refine lv_iload hx hb dL_entry_184 (lv_at hl 4 rfl) ?_
              cases hf
              subst hQ
              exact q_iret B hr hlk hw rfl rfl dL_entry_186
          have hL_57 : ∀ (n_57 : Nat) (x5_12 : Int32) (x6_13 : Int32) (H : Heap) (locs : List Loc) (ls : Array Slot), HW (LW ex) X M s H locs → lv_has ls 9 [(0, .ref (X.2.2 146)), (1, .ref (X.2.2 147)), (2, .ref (X.2.2 152)), (3, .int p3), (4, .int x4_2), (5, .int x5_12), (6, .int x6_13)] → f_L_entry_L57 fu p3 M x4_2 k179_8 n_57 x5_12 x6_13 = some rs → W p l e rm_L_entry s m args below meth c H locs 0 0 Q (F0 m 57 ls []) := by
            intro n_57
            induction n_57 with
            | zero => intro x5_12 x6_13 H locs ls hw hl hf; exact no_none hf
            | succ n_57 ih_57 =>
              intro x5_12 x6_13 H locs ls hw hl hf
              rw [f_L_entry_L57] at hf
              refine lv_iload hx hb dL_entry_57 (lv_at hl 6 rfl) ?_
              refine lv_bipush (v := 8) hx hb dL_entry_59 (by decide) ?_
              refine lv_icmp_ge (tgt := 179) hx hb dL_entry_61 (by decide) (fun c_14 => ?_) (fun c_14 => ?_)
              · have hf := it_e hf c_14
                exact J179_8 x5_12 _ _ _ hw (lv_sub hl [0, 1, 2, 3, 4, 5] rfl) hf
              · have hf := ie_e hf c_14
                refine lv_iload hx hb dL_entry_64 (lv_at hl 5 rfl) ?_
                refine lv_if_eq (tgt := 179) hx hb dL_entry_66 (by decide) (fun c_15 => ?_) (fun c_15 => ?_)
                · have hf := it_e hf c_15
                  exact J179_8 x5_12 _ _ _ hw (lv_sub hl [0, 1, 2, 3, 4, 5] rfl) hf
                · have hf := ie_e hf c_15
                  refine lv_aload_n hx hb dL_entry_69 rfl (lv_at hl 1 rfl) ?_
                  refine lv_bipush (v := 8) hx hb dL_entry_70 (by decide) ?_
                  refine lv_iload hx hb dL_entry_72 (lv_at hl 4 rfl) ?_
                  refine lv_imul hx hb dL_entry_74 ?_
                  refine lv_iload hx hb dL_entry_75 (lv_at hl 6 rfl) ?_
                  refine lv_iadd hx hb dL_entry_77 ?_
                  obtain ⟨g_16, hf⟩ := grd_e hf
                  refine w_iald B hw (i := 147) (kw147 _) g_16 dL_entry_78 ?_
                  refine nmv_e hf (fun kk => ∀ (H : Heap) (locs : List Loc), HW (LW ex) X M s H locs → W p l e rm_L_entry s m args below meth c H locs 0 0 Q (F0 m 87 ls [.int kk])) (fun J => ?_) (fun v_18 hf H locs hw => ?_)
                  · refine lv_if_ne (tgt := 86) hx hb dL_entry_79 (by decide) (fun c_17 => ?_) (fun c_17 => ?_)
                    · rw [if_neg (show ¬ ((M 147 ((8 * x4_2) + x6_13).toNatClampNeg) = 0) from c_17)] at J
                      refine lv_iconst (v := 0) hx hb dL_entry_86 (by decide) ?_
                      exact J _ _ hw
                    · rw [if_pos (show (M 147 ((8 * x4_2) + x6_13).toNatClampNeg) = 0 from c_17)] at J
                      refine lv_iconst (v := 1) hx hb dL_entry_82 (by decide) ?_
                      refine lv_goto (tgt := 87) hx hb dL_entry_83 (by decide) ?_
                      exact J _ _ hw
                  · refine lv_istore (lv' := [(7, .int v_18), (0, .ref (X.2.2 146)), (1, .ref (X.2.2 147)), (2, .ref (X.2.2 152)), (3, .int p3), (4, .int x4_2), (5, .int x5_12), (6, .int x6_13)]) hx hb dL_entry_87 hl (by decide) rfl (fun ls hl => ?_)
                    refine lv_iconst (v := 0) hx hb dL_entry_89 (by decide) ?_
                    refine lv_istore (lv' := [(8, .int 0), (7, .int v_18), (0, .ref (X.2.2 146)), (1, .ref (X.2.2 147)), (2, .ref (X.2.2 152)), (3, .int p3), (4, .int x4_2), (5, .int x5_12), (6, .int x6_13)]) hx hb dL_entry_90 hl (by decide) rfl (fun ls hl => ?_)
                    refine jn_e hf (fun kk => ∀ (x7_20 : Int32) (H : Heap) (locs : List Loc) (ls : Array Slot), HW (LW ex) X M s H locs → lv_has ls 9 [(0, .ref (X.2.2 146)), (1, .ref (X.2.2 147)), (2, .ref (X.2.2 152)), (3, .int p3), (4, .int x4_2), (6, .int x6_13), (7, .int x7_20)] → kk x7_20 = some rs → W p l e rm_L_entry s m args below meth c H locs 0 0 Q (F0 m 169 ls [])) ?_ (fun k169_19 J169_19 hf => ?_)
                    · intro x7_20 H locs ls hw hl hf
                      refine lv_iload hx hb dL_entry_169 (lv_at hl 6 rfl) ?_
                      refine lv_istore (lv' := [(5, .int x7_20), (0, .ref (X.2.2 146)), (1, .ref (X.2.2 147)), (2, .ref (X.2.2 152)), (3, .int p3), (4, .int x4_2), (6, .int x6_13), (7, .int x7_20)]) hx hb dL_entry_171 hl (by decide) rfl (fun ls hl => ?_)
                      refine r_iinc (v := (x6_13 + 1)) hx hb dL_entry_173 hl (k := 6) rfl rfl (by decide) hf (fun x6_21 ls hl hf => ?_)
                      have hl : lv_has ls 9 [(6, .int x6_21), (5, .int x7_20), (0, .ref (X.2.2 146)), (1, .ref (X.2.2 147)), (2, .ref (X.2.2 152)), (3, .int p3), (4, .int x4_2), (7, .int x7_20)] := hl
                      refine lv_goto (tgt := 57) hx hb dL_entry_176 (by decide) ?_
                      exact ih_57 x7_20 x6_21 _ _ _ hw (lv_sub hl [2, 3, 4, 5, 6, 1, 0] rfl) hf
                    have hL_92 : ∀ (n_92 : Nat) (x7_22 : Int32) (x8_23 : Int32) (H : Heap) (locs : List Loc) (ls : Array Slot), HW (LW ex) X M s H locs → lv_has ls 9 [(0, .ref (X.2.2 146)), (1, .ref (X.2.2 147)), (2, .ref (X.2.2 152)), (3, .int p3), (4, .int x4_2), (6, .int x6_13), (7, .int x7_22), (8, .int x8_23)] → f_L_entry_L92 fu p3 M x4_2 x6_13 k169_19 n_92 x7_22 x8_23 = some rs → W p l e rm_L_entry s m args below meth c H locs 0 0 Q (F0 m 92 ls []) := by
                      intro n_92
                      induction n_92 with
                      | zero => intro x7_22 x8_23 H locs ls hw hl hf; exact no_none hf
                      | succ n_92 ih_92 =>
                        intro x7_22 x8_23 H locs ls hw hl hf
                        rw [f_L_entry_L92] at hf
                        refine lv_iload hx hb dL_entry_92 (lv_at hl 7 rfl) ?_
                        refine lv_aload_n hx hb dL_entry_94 rfl (lv_at hl 0 rfl) ?_
                        refine lv_iconst (v := 2) hx hb dL_entry_95 (by decide) ?_
                        refine w_iald B hw (i := 146) (kw146 _) (by decide) dL_entry_96 ?_
                        refine lv_icmp_ge (tgt := 169) hx hb dL_entry_97 (by decide) (fun c_24 => ?_) (fun c_24 => ?_)
                        · have hf := it_e hf c_24
                          exact J169_19 x7_22 _ _ _ hw (lv_sub hl [0, 1, 2, 3, 4, 5, 6] rfl) hf
                        · have hf := ie_e hf c_24
                          refine lv_iload hx hb dL_entry_100 (lv_at hl 6 rfl) ?_
                          refine lv_aload_n hx hb dL_entry_102 rfl (lv_at hl 0 rfl) ?_
                          refine lv_iload hx hb dL_entry_103 (lv_at hl 7 rfl) ?_
                          refine lv_iload_n hx hb dL_entry_105 rfl (lv_at hl 3 rfl) ?_
                          obtain ⟨r_26, h_25, hf⟩ := bd_e hf
                          refine q_callSi (M' := M) (As := [.ref (X.2.2 146), .int x8_23, .int p3]) (rest := [.int x7_22]) B hw (c_L_sent l _ X fu x8_23 p3 M r_26 h_25 _) cs_L_215 rfl hl.1 rfl rfl ⟨(Nat.le_of_ble_eq_true rfl), (Nat.le_of_ble_eq_true rfl)⟩ (Nat.le_of_ble_eq_true rfl) ⟨(Nat.le_of_ble_eq_true rfl), (Nat.le_of_ble_eq_true rfl)⟩ dL_entry_106 rfl (fun H locs hw => ?_)
                          refine jn_e hf (fun kk => ∀ (v_28 : Int32) (H : Heap) (locs : List Loc) (ls : Array Slot), HW (LW ex) X M s H locs → lv_has ls 9 [(0, .ref (X.2.2 146)), (1, .ref (X.2.2 147)), (2, .ref (X.2.2 152)), (3, .int p3), (4, .int x4_2), (6, .int x6_13), (8, .int x8_23)] → kk v_28 = some rs → W p l e rm_L_entry s m args below meth c H locs 0 0 Q (F0 m 160 ls [.int v_28, .int x7_22])) ?_ (fun k160_27 J160_27 hf => ?_)
                          · intro v_28 H locs ls hw hl hf
                            refine lv_ior hx hb dL_entry_160 ?_
                            refine r_topn hf (fun x7_29 hf => ?_)
                            refine lv_istore (lv' := [(7, .int x7_29), (0, .ref (X.2.2 146)), (1, .ref (X.2.2 147)), (2, .ref (X.2.2 152)), (3, .int p3), (4, .int x4_2), (6, .int x6_13), (8, .int x8_23)]) hx hb dL_entry_161 hl (by decide) rfl (fun ls hl => ?_)
                            refine r_iinc (v := (x8_23 + 1)) hx hb dL_entry_163 hl (k := 7) rfl rfl (by decide) hf (fun x8_30 ls hl hf => ?_)
                            have hl : lv_has ls 9 [(8, .int x8_30), (7, .int x7_29), (0, .ref (X.2.2 146)), (1, .ref (X.2.2 147)), (2, .ref (X.2.2 152)), (3, .int p3), (4, .int x4_2), (6, .int x6_13)] := hl
                            refine lv_goto (tgt := 92) hx hb dL_entry_166 (by decide) ?_
                            exact ih_92 x7_29 x8_30 _ _ _ hw (lv_sub hl [2, 3, 4, 5, 6, 7, 1, 0] rfl) hf
                          refine jn_e hf (fun kk => ∀ (_ : Unit) (H : Heap) (locs : List Loc) (ls : Array Slot), HW (LW ex) X M s H locs → lv_has ls 9 [(0, .ref (X.2.2 146)), (1, .ref (X.2.2 147)), (2, .ref (X.2.2 152)), (3, .int p3), (4, .int x4_2), (6, .int x6_13), (8, .int x8_23)] → kk () = some rs → W p l e rm_L_entry s m args below meth c H locs 0 0 Q (F0 m 159 ls [.int x7_22])) ?_ (fun k159_31 J159_31 hf => ?_)
                          · intro _ H locs ls hw hl hf
                            refine lv_iconst (v := 0) hx hb dL_entry_159 (by decide) ?_
                            exact J160_27 0 _ _ _ hw (lv_sub hl [0, 1, 2, 3, 4, 5, 6] rfl) hf
                          refine lv_if_eq (tgt := 159) hx hb dL_entry_109 (by decide) (fun c_32 => ?_) (fun c_32 => ?_)
                          · have hf := it_e hf c_32
                            exact J159_31 () _ _ _ hw (lv_sub hl [0, 1, 2, 3, 4, 5, 7] rfl) hf
                          · have hf := ie_e hf c_32
                            refine lv_aload_n hx hb dL_entry_112 rfl (lv_at hl 1 rfl) ?_
                            refine lv_bipush (v := 8) hx hb dL_entry_113 (by decide) ?_
                            refine lv_iload hx hb dL_entry_115 (lv_at hl 4 rfl) ?_
                            refine lv_imul hx hb dL_entry_117 ?_
                            refine lv_iload hx hb dL_entry_118 (lv_at hl 5 rfl) ?_
                            refine lv_iadd hx hb dL_entry_120 ?_
                            obtain ⟨g_33, hf⟩ := grd_e hf
                            refine w_iald B hw (i := 147) (kw147 _) g_33 dL_entry_121 ?_
                            refine lv_aload_n hx hb dL_entry_122 rfl (lv_at hl 0 rfl) ?_
                            refine lv_bipush (v := 23) hx hb dL_entry_123 (by decide) ?_
                            refine lv_iconst (v := 4) hx hb dL_entry_125 (by decide) ?_
                            refine lv_iload hx hb dL_entry_126 (lv_at hl 7 rfl) ?_
                            refine lv_imul hx hb dL_entry_128 ?_
                            refine lv_iadd hx hb dL_entry_129 ?_
                            obtain ⟨g_34, hf⟩ := grd_e hf
                            refine w_iald B hw (i := 146) (kw146 _) g_34 dL_entry_130 ?_
                            refine lv_aload_n hx hb dL_entry_131 rfl (lv_at hl 0 rfl) ?_
                            refine lv_bipush (v := 22) hx hb dL_entry_132 (by decide) ?_
                            refine lv_iconst (v := 4) hx hb dL_entry_134 (by decide) ?_
                            refine lv_iload hx hb dL_entry_135 (lv_at hl 7 rfl) ?_
                            refine lv_imul hx hb dL_entry_137 ?_
                            refine lv_iadd hx hb dL_entry_138 ?_
                            obtain ⟨g_35, hf⟩ := grd_e hf
                            refine w_iald B hw (i := 146) (kw146 _) g_35 dL_entry_139 ?_
                            refine lv_aload_n hx hb dL_entry_140 rfl (lv_at hl 0 rfl) ?_
                            refine lv_bipush (v := 24) hx hb dL_entry_141 (by decide) ?_
                            refine lv_iconst (v := 4) hx hb dL_entry_143 (by decide) ?_
                            refine lv_iload hx hb dL_entry_144 (lv_at hl 7 rfl) ?_
                            refine lv_imul hx hb dL_entry_146 ?_
                            refine lv_iadd hx hb dL_entry_147 ?_
                            obtain ⟨g_36, hf⟩ := grd_e hf
                            refine w_iald B hw (i := 146) (kw146 _) g_36 dL_entry_148 ?_
                            refine q_callSi (M' := M) (As := [.int (M 147 ((8 * x4_2) + x6_13).toNatClampNeg), .int (M 146 (23 + (4 * x8_23)).toNatClampNeg), .int (M 146 (22 + (4 * x8_23)).toNatClampNeg), .int (M 146 (24 + (4 * x8_23)).toNatClampNeg)]) (rest := [.int x7_22]) B hw (c_L_follows l _ X (M 147 ((8 * x4_2) + x6_13).toNatClampNeg) (M 146 (23 + (4 * x8_23)).toNatClampNeg) (M 146 (22 + (4 * x8_23)).toNatClampNeg) (M 146 (24 + (4 * x8_23)).toNatClampNeg) _ rfl M _) cs_L_244 rfl hl.1 rfl rfl ⟨(Nat.le_of_ble_eq_true rfl), (Nat.le_of_ble_eq_true rfl)⟩ (Nat.le_of_ble_eq_true rfl) ⟨(Nat.le_of_ble_eq_true rfl), (Nat.le_of_ble_eq_true rfl)⟩ dL_entry_149 rfl (fun H locs hw => ?_)
                            refine lv_if_eq (tgt := 159) hx hb dL_entry_152 (by decide) (fun c_38 => ?_) (fun c_38 => ?_)
                            · have hf := it_e hf c_38
                              exact J159_31 () _ _ _ hw (lv_sub hl [0, 1, 2, 3, 4, 5, 7] rfl) hf
                            · have hf := ie_e hf c_38
                              refine lv_iconst (v := 1) hx hb dL_entry_155 (by decide) ?_
                              refine lv_goto (tgt := 160) hx hb dL_entry_156 (by decide) ?_
                              exact J160_27 1 _ _ _ hw (lv_sub hl [0, 1, 2, 3, 4, 5, 7] rfl) hf
                    exact hL_92 fu v_18 0 _ _ _ hw (lv_sub hl [2, 3, 4, 5, 6, 8, 1, 0] rfl) hf
          exact hL_57 fu v_7 4 _ _ _ hw (lv_sub hl [2, 3, 4, 5, 6, 1, 0] rfl) hf
        refine jn_e hf (fun kk => ∀ (_ : Unit) (H : Heap) (locs : List Loc) (ls : Array Slot), HW (LW ex) X M s H locs → lv_has ls 9 [(0, .ref (X.2.2 146)), (1, .ref (X.2.2 147)), (2, .ref (X.2.2 152)), (3, .int p3), (4, .int x4_2)] → kk () = some rs → W p l e rm_L_entry s m args below meth c H locs 0 0 Q (F0 m 51 ls [])) ?_ (fun k51_39 J51_39 hf => ?_)
        · intro _ H locs ls hw hl hf
          refine lv_iconst (v := 0) hx hb dL_entry_51 (by decide) ?_
          exact J52_6 0 _ _ _ hw (lv_sub hl [0, 1, 2, 3, 4] rfl) hf
        refine lv_icmp_ne (tgt := 51) hx hb dL_entry_25 (by decide) (fun c_40 => ?_) (fun c_40 => ?_)
        · have hf := ie_e hf c_40
          exact J51_39 () _ _ _ hw (lv_sub hl [0, 1, 2, 3, 4] rfl) hf
        · have hf := it_e hf c_40
          refine lv_aload_n hx hb dL_entry_28 rfl (lv_at hl 2 rfl) ?_
          refine lv_iconst (v := 1) hx hb dL_entry_29 (by decide) ?_
          refine w_iald B hw (i := 152) (kw152 _) (by decide) dL_entry_30 ?_
          refine lv_aload_n hx hb dL_entry_31 rfl (lv_at hl 1 rfl) ?_
          refine lv_bipush (v := 8) hx hb dL_entry_32 (by decide) ?_
          refine lv_iload hx hb dL_entry_34 (lv_at hl 4 rfl) ?_
          refine lv_imul hx hb dL_entry_36 ?_
          refine lv_iconst (v := 1) hx hb dL_entry_37 (by decide) ?_
          refine lv_iadd hx hb dL_entry_38 ?_
          obtain ⟨g_41, hf⟩ := grd_e hf
          refine w_iald B hw (i := 147) (kw147 _) g_41 dL_entry_39 ?_
          refine lv_isub hx hb dL_entry_40 ?_
          refine lv_aload_n hx hb dL_entry_41 rfl (lv_at hl 2 rfl) ?_
          refine lv_iconst (v := 5) hx hb dL_entry_42 (by decide) ?_
          refine w_iald B hw (i := 152) (kw152 _) (by decide) dL_entry_43 ?_
          refine lv_icmp_gt (tgt := 51) hx hb dL_entry_44 (by decide) (fun c_42 => ?_) (fun c_42 => ?_)
          · have hf := it_e hf c_42
            exact J51_39 () _ _ _ hw (lv_sub hl [0, 1, 2, 3, 4] rfl) hf
          · have hf := ie_e hf c_42
            refine lv_iconst (v := 1) hx hb dL_entry_47 (by decide) ?_
            refine lv_goto (tgt := 52) hx hb dL_entry_48 (by decide) ?_
            exact J52_6 1 _ _ _ hw (lv_sub hl [0, 1, 2, 3, 4] rfl) hf
  exact hL_7 fu x4_1 _ _ _ hw (lv_sub hl [1, 2, 3, 4, 0] rfl) hf
abbrev rm_L_linkOf : Room := { frames := 0, cells := 0, slots := 0, locals := 0 }
set_option maxRecDepth 100000 in
set_option maxHeartbeats 8000000 in
theorem c_L_linkOf (l : Launch) (ex : List (Nat × Nat)) (X : XT) (fu : Nat) (p2 : Int32) (M : Mem)  (rs : Int32) (hf : f_L_linkOf fu p2 M = some rs) (sz : Nat) : Met l yL_linkOf (wbig yL_linkOf cL_linkOf 6 (some .int)) rm_L_linkOf (va_Pc [.ref (X.2.2 146), .ref (X.2.2 151), .int p2] (PW (LW ex) X M sz)) (QI (LW ex) X M rs sz) 0 0 (AX (LW ex) X sz) := by
  refine met_go (L := (LW ex)) (M := M) (by decide +kernel) (Nat.le_of_ble_eq_true rfl) ?_
  intro p e s m args below meth c hsz B hr hlk hw ls hl
  subst hsz
  have hx := B.hx
  have hb := B.hb
  have hl : lv_has ls 6 [(0, .ref (X.2.2 146)), (1, .ref (X.2.2 151)), (2, .int p2)] := hl
  generalize hQ : MQ below _ args s 0 0 (AX (LW ex) X s.heap.size) = Q
  unfold f_L_linkOf at hf
  refine lv_iconst (v := 0) hx hb dL_linkOf_0 (by decide) ?_
  refine lv_istore_n (lv' := [(3, .int 0), (0, .ref (X.2.2 146)), (1, .ref (X.2.2 151)), (2, .int p2)]) hx hb dL_linkOf_1 rfl hl (by decide) rfl (fun ls hl => ?_)
  have hL_2 : ∀ (n_2 : Nat) (x3_1 : Int32) (H : Heap) (locs : List Loc) (ls : Array Slot), HW (LW ex) X M s H locs → lv_has ls 6 [(0, .ref (X.2.2 146)), (1, .ref (X.2.2 151)), (2, .int p2), (3, .int x3_1)] → f_L_linkOf_L2 fu p2 M n_2 x3_1 = some rs → W p l e rm_L_linkOf s m args below meth c H locs 0 0 Q (F0 m 2 ls []) := by
    intro n_2
    induction n_2 with
    | zero => intro x3_1 H locs ls hw hl hf; exact no_none hf
    | succ n_2 ih_2 =>
      intro x3_1 H locs ls hw hl hf
      rw [f_L_linkOf_L2] at hf
      refine lv_iload_n hx hb dL_linkOf_2 rfl (lv_at hl 3 rfl) ?_
      refine lv_aload_n hx hb dL_linkOf_3 rfl (lv_at hl 0 rfl) ?_
      refine lv_iconst (v := 1) hx hb dL_linkOf_4 (by decide) ?_
      refine w_iald B hw (i := 146) (kw146 _) (by decide) dL_linkOf_5 ?_
      refine lv_icmp_ge (tgt := 67) hx hb dL_linkOf_6 (by decide) (fun c_2 => ?_) (fun c_2 => ?_)
      · have hf := it_e hf c_2
        refine lv_iconst (v := (-1)) hx hb dL_linkOf_67 (by decide) ?_
        cases hf
        subst hQ
        exact q_iret B hr hlk hw rfl rfl dL_linkOf_68
      · have hf := ie_e hf c_2
        refine lv_aload_n hx hb dL_linkOf_9 rfl (lv_at hl 0 rfl) ?_
        refine lv_bipush (v := 9) hx hb dL_linkOf_10 (by decide) ?_
        refine lv_iconst (v := 4) hx hb dL_linkOf_12 (by decide) ?_
        refine lv_iload_n hx hb dL_linkOf_13 rfl (lv_at hl 3 rfl) ?_
        refine lv_imul hx hb dL_linkOf_14 ?_
        refine lv_iadd hx hb dL_linkOf_15 ?_
        obtain ⟨g_3, hf⟩ := grd_e hf
        refine w_iald B hw (i := 146) (kw146 _) g_3 dL_linkOf_16 ?_
        refine r_topn hf (fun x4_4 hf => ?_)
        refine lv_istore (lv' := [(4, .int x4_4), (0, .ref (X.2.2 146)), (1, .ref (X.2.2 151)), (2, .int p2), (3, .int x3_1)]) hx hb dL_linkOf_17 hl (by decide) rfl (fun ls hl => ?_)
        refine lv_aload_n hx hb dL_linkOf_19 rfl (lv_at hl 1 rfl) ?_
        refine lv_bipush (v := 11) hx hb dL_linkOf_20 (by decide) ?_
        refine lv_iconst (v := 4) hx hb dL_linkOf_22 (by decide) ?_
        refine lv_iload_n hx hb dL_linkOf_23 rfl (lv_at hl 4 rfl) ?_
        refine lv_imul hx hb dL_linkOf_24 ?_
        refine lv_iadd hx hb dL_linkOf_25 ?_
        obtain ⟨g_5, hf⟩ := grd_e hf
        refine w_iald B hw (i := 146) (kw146 _) g_5 dL_linkOf_26 ?_
        refine r_topn hf (fun x5_6 hf => ?_)
        refine lv_istore (lv' := [(5, .int x5_6), (4, .int x4_4), (0, .ref (X.2.2 146)), (1, .ref (X.2.2 151)), (2, .int p2), (3, .int x3_1)]) hx hb dL_linkOf_27 hl (by decide) rfl (fun ls hl => ?_)
        refine lv_iload hx hb dL_linkOf_29 (lv_at hl 1 rfl) ?_
        refine lv_iload_n hx hb dL_linkOf_31 rfl (lv_at hl 4 rfl) ?_
        refine jn_e hf (fun kk => ∀ (_ : Unit) (H : Heap) (locs : List Loc) (ls : Array Slot), HW (LW ex) X M s H locs → lv_has ls 6 [(0, .ref (X.2.2 146)), (1, .ref (X.2.2 151)), (2, .int p2), (3, .int x3_1), (4, .int x4_4), (5, .int x5_6)] → kk () = some rs → W p l e rm_L_linkOf s m args below meth c H locs 0 0 Q (F0 m 44 ls [])) ?_ (fun k44_7 J44_7 hf => ?_)
        · intro _ H locs ls hw hl hf
          refine lv_iload hx hb dL_linkOf_44 (lv_at hl 5 rfl) ?_
          refine lv_iload_n hx hb dL_linkOf_46 rfl (lv_at hl 2 rfl) ?_
          refine lv_icmp_ne (tgt := 61) hx hb dL_linkOf_47 (by decide) (fun c_8 => ?_) (fun c_8 => ?_)
          · have hf := ie_e hf c_8
            refine r_iinc (v := (x3_1 + 1)) hx hb dL_linkOf_61 hl (k := 3) rfl rfl (by decide) hf (fun x3_9 ls hl hf => ?_)
            have hl : lv_has ls 6 [(3, .int x3_9), (0, .ref (X.2.2 146)), (1, .ref (X.2.2 151)), (2, .int p2), (4, .int x4_4), (5, .int x5_6)] := hl
            refine lv_goto (tgt := 2) hx hb dL_linkOf_64 (by decide) ?_
            exact ih_2 x3_9 _ _ _ hw (lv_sub hl [1, 2, 3, 0] rfl) hf
          · have hf := it_e hf c_8
            refine lv_aload_n hx hb dL_linkOf_50 rfl (lv_at hl 1 rfl) ?_
            refine lv_iconst (v := 4) hx hb dL_linkOf_51 (by decide) ?_
            refine lv_iload hx hb dL_linkOf_52 (lv_at hl 4 rfl) ?_
            refine lv_imul hx hb dL_linkOf_54 ?_
            obtain ⟨g_10, hf⟩ := grd_e hf
            refine w_iald B hw (i := 151) (kw151 _) g_10 dL_linkOf_55 ?_
            refine lv_if_lt (tgt := 61) hx hb dL_linkOf_56 (by decide) (fun c_11 => ?_) (fun c_11 => ?_)
            · have hf := it_e hf c_11
              refine r_iinc (v := (x3_1 + 1)) hx hb dL_linkOf_61 hl (k := 3) rfl rfl (by decide) hf (fun x3_12 ls hl hf => ?_)
              have hl : lv_has ls 6 [(3, .int x3_12), (0, .ref (X.2.2 146)), (1, .ref (X.2.2 151)), (2, .int p2), (4, .int x4_4), (5, .int x5_6)] := hl
              refine lv_goto (tgt := 2) hx hb dL_linkOf_64 (by decide) ?_
              exact ih_2 x3_12 _ _ _ hw (lv_sub hl [1, 2, 3, 0] rfl) hf
            · have hf := ie_e hf c_11
              refine lv_iload_n hx hb dL_linkOf_59 rfl (lv_at hl 3 rfl) ?_
              cases hf
              subst hQ
              exact q_iret B hr hlk hw rfl rfl dL_linkOf_60
        refine lv_icmp_ne (tgt := 44) hx hb dL_linkOf_32 (by decide) (fun c_13 => ?_) (fun c_13 => ?_)
        · have hf := ie_e hf c_13
          exact J44_7 () _ _ _ hw (lv_sub hl [2, 3, 4, 5, 1, 0] rfl) hf
        · have hf := it_e hf c_13
          refine lv_aload_n hx hb dL_linkOf_35 rfl (lv_at hl 3 rfl) ?_
          refine lv_iconst (v := 4) hx hb dL_linkOf_36 (by decide) ?_
          refine lv_iload hx hb dL_linkOf_37 (lv_at hl 0 rfl) ?_
          refine lv_imul hx hb dL_linkOf_39 ?_
          obtain ⟨g_14, hf⟩ := grd_e hf
          refine w_iald B hw (i := 151) (kw151 _) g_14 dL_linkOf_40 ?_
          refine lv_if_ge (tgt := 59) hx hb dL_linkOf_41 (by decide) (fun c_15 => ?_) (fun c_15 => ?_)
          · have hf := it_e hf c_15
            refine lv_iload_n hx hb dL_linkOf_59 rfl (lv_at hl 5 rfl) ?_
            cases hf
            subst hQ
            exact q_iret B hr hlk hw rfl rfl dL_linkOf_60
          · have hf := ie_e hf c_15
            exact J44_7 () _ _ _ hw (lv_sub hl [2, 3, 4, 5, 1, 0] rfl) hf
  exact hL_2 fu 0 _ _ _ hw (lv_sub hl [1, 2, 3, 0] rfl) hf
abbrev rm_L_right : Room := { frames := 0, cells := 0, slots := 0, locals := 0 }
set_option maxRecDepth 100000 in
set_option maxHeartbeats 8000000 in
theorem c_L_right (l : Launch) (ex : List (Nat × Nat)) (X : XT) (fu : Nat) (p3 : Int32) (p4 : Int32) (p5 : Int32) (M : Mem)  (rs : Mem) (hf : f_L_right fu p3 p4 p5 M = some rs) (sz : Nat) : Met l yL_right (wbig yL_right cL_right 7 none) rm_L_right (va_Pc [.ref (X.2.2 144), .ref (X.2.2 151), .ref (X.2.2 152), .int p3, .int p4, .int p5] (PW (LW ex) X M sz)) (QV (LW ex) X rs sz) 0 0 (AX (LW ex) X sz) := by
  refine met_go (L := (LW ex)) (M := M) (by decide +kernel) (Nat.le_of_ble_eq_true rfl) ?_
  intro p e s m args below meth c hsz B hr hlk hw ls hl
  subst hsz
  have hx := B.hx
  have hb := B.hb
  have hl : lv_has ls 7 [(0, .ref (X.2.2 144)), (1, .ref (X.2.2 151)), (2, .ref (X.2.2 152)), (3, .int p3), (4, .int p4), (5, .int p5)] := hl
  generalize hQ : MQ below _ args s 0 0 (AX (LW ex) X s.heap.size) = Q
  unfold f_L_right at hf
  refine lv_aload_n hx hb dL_right_0 rfl (lv_at hl 1 rfl) ?_
  refine lv_iconst (v := 4) hx hb dL_right_1 (by decide) ?_
  refine lv_iload_n hx hb dL_right_2 rfl (lv_at hl 3 rfl) ?_
  refine lv_imul hx hb dL_right_3 ?_
  refine lv_iconst (v := 2) hx hb dL_right_4 (by decide) ?_
  refine lv_iadd hx hb dL_right_5 ?_
  refine lv_iconst (v := 0) hx hb dL_right_6 (by decide) ?_
  obtain ⟨g_1, hf⟩ := grd_e hf
  refine w_iast B hw (i := 151) (kw151 _) g_1 dL_right_7 hf (fun M_2 H locs hw hf => ?_)
  refine lv_aload_n hx hb dL_right_8 rfl (lv_at hl 1 rfl) ?_
  refine lv_iconst (v := 4) hx hb dL_right_9 (by decide) ?_
  refine lv_iload_n hx hb dL_right_10 rfl (lv_at hl 3 rfl) ?_
  refine lv_imul hx hb dL_right_11 ?_
  refine lv_iconst (v := 3) hx hb dL_right_12 (by decide) ?_
  refine lv_iadd hx hb dL_right_13 ?_
  refine lv_aload_n hx hb dL_right_14 rfl (lv_at hl 2 rfl) ?_
  refine lv_iconst (v := 0) hx hb dL_right_15 (by decide) ?_
  refine w_iald B hw (i := 152) (kw152 _) (by decide) dL_right_16 ?_
  obtain ⟨g_3, hf⟩ := grd_e hf
  refine w_iast B hw (i := 151) (kw151 _) g_3 dL_right_17 hf (fun M_4 H locs hw hf => ?_)
  refine lv_aload_n hx hb dL_right_18 rfl (lv_at hl 2 rfl) ?_
  refine lv_iconst (v := 0) hx hb dL_right_19 (by decide) ?_
  refine w_iald B hw (i := 152) (kw152 _) (by decide) dL_right_20 ?_
  refine r_topn hf (fun x6_5 hf => ?_)
  refine lv_istore (lv' := [(6, .int x6_5), (0, .ref (X.2.2 144)), (1, .ref (X.2.2 151)), (2, .ref (X.2.2 152)), (3, .int p3), (4, .int p4), (5, .int p5)]) hx hb dL_right_21 hl (by decide) rfl (fun ls hl => ?_)
  have hL_23 : ∀ (n_23 : Nat) (x6_6 : Int32) (M_7 : Mem) (H : Heap) (locs : List Loc) (ls : Array Slot), HW (LW ex) X M_7 s H locs → lv_has ls 7 [(0, .ref (X.2.2 144)), (1, .ref (X.2.2 151)), (3, .int p3), (4, .int p4), (5, .int p5), (6, .int x6_6)] → f_L_right_L23 fu p3 p4 p5 n_23 x6_6 M_7 = some rs → W p l e rm_L_right s m args below meth c H locs 0 0 Q (F0 m 23 ls []) := by
    intro n_23
    induction n_23 with
    | zero => intro x6_6 M_7 H locs ls hw hl hf; exact no_none hf
    | succ n_23 ih_23 =>
      intro x6_6 M_7 H locs ls hw hl hf
      rw [f_L_right_L23] at hf
      refine lv_iload hx hb dL_right_23 (lv_at hl 5 rfl) ?_
      refine lv_if_le (tgt := 89) hx hb dL_right_25 (by decide) (fun c_8 => ?_) (fun c_8 => ?_)
      · have hf := it_e hf c_8
        cases hf
        subst hQ
        exact q_vret B hr hlk hw rfl dL_right_89
      · have hf := ie_e hf c_8
        refine lv_aload_n hx hb dL_right_28 rfl (lv_at hl 0 rfl) ?_
        refine lv_iload hx hb dL_right_29 (lv_at hl 5 rfl) ?_
        obtain ⟨g_9, hf⟩ := grd_e hf
        refine w_iald B hw (i := 144) (kw144 _) g_9 dL_right_31 ?_
        refine lv_bipush (v := 7) hx hb dL_right_32 (by decide) ?_
        refine lv_iand hx hb dL_right_34 ?_
        refine lv_iload hx hb dL_right_35 (lv_at hl 3 rfl) ?_
        refine lv_icmp_eq (tgt := 43) hx hb dL_right_37 (by decide) (fun c_10 => ?_) (fun c_10 => ?_)
        · have hf := it_e hf c_10
          refine lv_iload hx hb dL_right_43 (lv_at hl 5 rfl) ?_
          refine lv_iload hx hb dL_right_45 (lv_at hl 4 rfl) ?_
          refine lv_icmp_le (tgt := 64) hx hb dL_right_47 (by decide) (fun c_11 => ?_) (fun c_11 => ?_)
          · have hf := it_e hf c_11
            refine lv_aload_n hx hb dL_right_64 rfl (lv_at hl 1 rfl) ?_
            refine lv_iconst (v := 4) hx hb dL_right_65 (by decide) ?_
            refine lv_iload_n hx hb dL_right_66 rfl (lv_at hl 2 rfl) ?_
            refine lv_imul hx hb dL_right_67 ?_
            refine lv_iconst (v := 2) hx hb dL_right_68 (by decide) ?_
            refine lv_iadd hx hb dL_right_69 ?_
            obtain ⟨g_12, hf⟩ := grd_e hf
            refine w_iald B hw (i := 151) (kw151 _) g_12 dL_right_70 ?_
            refine lv_if_ne (tgt := 83) hx hb dL_right_71 (by decide) (fun c_13 => ?_) (fun c_13 => ?_)
            · have hf := ie_e hf c_13
              refine r_iinc (v := (x6_6 + (-1))) hx hb dL_right_83 hl (k := 5) rfl rfl (by decide) hf (fun x6_14 ls hl hf => ?_)
              have hl : lv_has ls 7 [(6, .int x6_14), (0, .ref (X.2.2 144)), (1, .ref (X.2.2 151)), (3, .int p3), (4, .int p4), (5, .int p5)] := hl
              refine lv_goto (tgt := 23) hx hb dL_right_86 (by decide) ?_
              exact ih_23 x6_14 M_7 _ _ _ hw (lv_sub hl [1, 2, 3, 4, 5, 0] rfl) hf
            · have hf := it_e hf c_13
              refine lv_aload_n hx hb dL_right_74 rfl (lv_at hl 1 rfl) ?_
              refine lv_iconst (v := 4) hx hb dL_right_75 (by decide) ?_
              refine lv_iload_n hx hb dL_right_76 rfl (lv_at hl 2 rfl) ?_
              refine lv_imul hx hb dL_right_77 ?_
              refine lv_iconst (v := 2) hx hb dL_right_78 (by decide) ?_
              refine lv_iadd hx hb dL_right_79 ?_
              refine lv_iload hx hb dL_right_80 (lv_at hl 5 rfl) ?_
              refine w_iast B hw (i := 151) (kw151 _) g_12 dL_right_82 hf (fun M_15 H locs hw hf => ?_)
              refine r_iinc (v := (x6_6 + (-1))) hx hb dL_right_83 hl (k := 5) rfl rfl (by decide) hf (fun x6_16 ls hl hf => ?_)
              have hl : lv_has ls 7 [(6, .int x6_16), (0, .ref (X.2.2 144)), (1, .ref (X.2.2 151)), (3, .int p3), (4, .int p4), (5, .int p5)] := hl
              refine lv_goto (tgt := 23) hx hb dL_right_86 (by decide) ?_
              exact ih_23 x6_16 M_15 _ _ _ hw (lv_sub hl [1, 2, 3, 4, 5, 0] rfl) hf
          · have hf := ie_e hf c_11
            refine lv_aload_n hx hb dL_right_50 rfl (lv_at hl 1 rfl) ?_
            refine lv_iconst (v := 4) hx hb dL_right_51 (by decide) ?_
            refine lv_iload_n hx hb dL_right_52 rfl (lv_at hl 2 rfl) ?_
            refine lv_imul hx hb dL_right_53 ?_
            refine lv_iconst (v := 3) hx hb dL_right_54 (by decide) ?_
            refine lv_iadd hx hb dL_right_55 ?_
            refine lv_iload hx hb dL_right_56 (lv_at hl 5 rfl) ?_
            refine lv_iconst (v := 1) hx hb dL_right_58 (by decide) ?_
            refine lv_isub hx hb dL_right_59 ?_
            obtain ⟨g_17, hf⟩ := grd_e hf
            refine w_iast B hw (i := 151) (kw151 _) g_17 dL_right_60 hf (fun M_18 H locs hw hf => ?_)
            refine lv_goto (tgt := 83) hx hb dL_right_61 (by decide) ?_
            refine r_iinc (v := (x6_6 + (-1))) hx hb dL_right_83 hl (k := 5) rfl rfl (by decide) hf (fun x6_19 ls hl hf => ?_)
            have hl : lv_has ls 7 [(6, .int x6_19), (0, .ref (X.2.2 144)), (1, .ref (X.2.2 151)), (3, .int p3), (4, .int p4), (5, .int p5)] := hl
            refine lv_goto (tgt := 23) hx hb dL_right_86 (by decide) ?_
            exact ih_23 x6_19 M_18 _ _ _ hw (lv_sub hl [1, 2, 3, 4, 5, 0] rfl) hf
        · have hf := ie_e hf c_10
          refine lv_goto (tgt := 83) hx hb dL_right_40 (by decide) ?_
          refine r_iinc (v := (x6_6 + (-1))) hx hb dL_right_83 hl (k := 5) rfl rfl (by decide) hf (fun x6_20 ls hl hf => ?_)
          have hl : lv_has ls 7 [(6, .int x6_20), (0, .ref (X.2.2 144)), (1, .ref (X.2.2 151)), (3, .int p3), (4, .int p4), (5, .int p5)] := hl
          refine lv_goto (tgt := 23) hx hb dL_right_86 (by decide) ?_
          exact ih_23 x6_20 M_7 _ _ _ hw (lv_sub hl [1, 2, 3, 4, 5, 0] rfl) hf
  exact hL_23 fu x6_5 M_4 _ _ _ hw (lv_sub hl [1, 2, 4, 5, 6, 0] rfl) hf
abbrev rm_L_bind : Room := { frames := 5, cells := 0, slots := 0, locals := 143 }
set_option maxRecDepth 100000 in
set_option maxHeartbeats 8000000 in
theorem c_L_bind (l : Launch) (X : XT) (fu : Nat) (p13 : Int32) (p14 : Int32) (p15 : Int32) (p16 : Int32) (M : Mem)  (rs : Mem) (hf : f_L_bind fu p13 p14 p15 p16 M = some rs) (sz : Nat) : Met l yL_bind (wbig yL_bind cL_bind 18 none) rm_L_bind (va_Pc [.ref (X.2.2 142), .ref (X.2.2 143), .ref (X.2.2 144), .ref (X.2.2 145), .ref (X.2.2 146), .ref (X.2.2 147), .ref (X.2.2 148), .ref (X.2.2 153), .ref (X.2.2 149), .ref (X.2.2 150), .ref (X.2.2 151), .ref (X.2.2 152), .ref (X.2.2 157), .int p13, .int p14, .int p15, .int p16] (PW (LW [(20, 10)]) X M sz)) (QV (LW [(20, 10)]) X rs sz) 0 0 (AX (LW [(20, 10)]) X sz) := by
  refine met_go (L := (LW [(20, 10)])) (M := M) (by decide +kernel) (Nat.le_of_ble_eq_true rfl) ?_
  intro p e s m args below meth c hsz B hr hlk hw ls hl
  subst hsz
  have hx := B.hx
  have hb := B.hb
  have hl : lv_has ls 18 [(0, .ref (X.2.2 142)), (1, .ref (X.2.2 143)), (2, .ref (X.2.2 144)), (3, .ref (X.2.2 145)), (4, .ref (X.2.2 146)), (5, .ref (X.2.2 147)), (6, .ref (X.2.2 148)), (7, .ref (X.2.2 153)), (8, .ref (X.2.2 149)), (9, .ref (X.2.2 150)), (10, .ref (X.2.2 151)), (11, .ref (X.2.2 152)), (12, .ref (X.2.2 157)), (13, .int p13), (14, .int p14), (15, .int p15), (16, .int p16)] := hl
  generalize hQ : MQ below _ args s 0 0 (AX (LW [(20, 10)]) X s.heap.size) = Q
  unfold f_L_bind at hf
  refine lv_aload hx hb dL_bind_0 (lv_at hl 9 rfl) ?_
  refine lv_iload hx hb dL_bind_2 (lv_at hl 14 rfl) ?_
  refine lv_iconst (v := 0) hx hb dL_bind_4 (by decide) ?_
  obtain ⟨g_1, hf⟩ := grd_e hf
  refine w_iast B hw (i := 150) (kw150 _) g_1 dL_bind_5 hf (fun M_2 H locs hw hf => ?_)
  refine lv_aload hx hb dL_bind_6 (lv_at hl 10 rfl) ?_
  refine lv_iconst (v := 4) hx hb dL_bind_8 (by decide) ?_
  refine lv_iload hx hb dL_bind_9 (lv_at hl 14 rfl) ?_
  refine lv_imul hx hb dL_bind_11 ?_
  refine lv_iconst (v := 1) hx hb dL_bind_12 (by decide) ?_
  obtain ⟨g_3, hf⟩ := grd_e hf
  refine w_iast B hw (i := 151) (kw151 _) g_3 dL_bind_13 hf (fun M_4 H locs hw hf => ?_)
  refine lv_aload hx hb dL_bind_14 (lv_at hl 10 rfl) ?_
  refine lv_iconst (v := 4) hx hb dL_bind_16 (by decide) ?_
  refine lv_iload hx hb dL_bind_17 (lv_at hl 14 rfl) ?_
  refine lv_imul hx hb dL_bind_19 ?_
  refine lv_iconst (v := 1) hx hb dL_bind_20 (by decide) ?_
  refine lv_iadd hx hb dL_bind_21 ?_
  refine lv_iconst (v := 0) hx hb dL_bind_22 (by decide) ?_
  obtain ⟨g_5, hf⟩ := grd_e hf
  refine w_iast B hw (i := 151) (kw151 _) g_5 dL_bind_23 hf (fun M_6 H locs hw hf => ?_)
  refine lv_iconst (v := 0) hx hb dL_bind_24 (by decide) ?_
  refine lv_istore (lv' := [(17, .int 0), (0, .ref (X.2.2 142)), (1, .ref (X.2.2 143)), (2, .ref (X.2.2 144)), (3, .ref (X.2.2 145)), (4, .ref (X.2.2 146)), (5, .ref (X.2.2 147)), (6, .ref (X.2.2 148)), (7, .ref (X.2.2 153)), (8, .ref (X.2.2 149)), (9, .ref (X.2.2 150)), (10, .ref (X.2.2 151)), (11, .ref (X.2.2 152)), (12, .ref (X.2.2 157)), (13, .int p13), (14, .int p14), (15, .int p15), (16, .int p16)]) hx hb dL_bind_25 hl (by decide) rfl (fun ls hl => ?_)
  refine jn_e hf (fun kk => ∀ (M_8 : Mem) (H : Heap) (locs : List Loc) (ls : Array Slot), HW (LW [(20, 10)]) X M_8 s H locs → lv_has ls 18 [(0, .ref (X.2.2 142)), (1, .ref (X.2.2 143)), (2, .ref (X.2.2 144)), (3, .ref (X.2.2 145)), (4, .ref (X.2.2 146)), (5, .ref (X.2.2 147)), (6, .ref (X.2.2 148)), (7, .ref (X.2.2 153)), (8, .ref (X.2.2 149)), (9, .ref (X.2.2 150)), (10, .ref (X.2.2 151)), (11, .ref (X.2.2 152)), (14, .int p14)] → kk M_8 = some rs → W p l e rm_L_bind s m args below meth c H locs 0 0 Q (F0 m 148 ls [])) ?_ (fun k148_7 J148_7 hf => ?_)
  · intro M_8 H locs ls hw hl hf
    refine lv_aload hx hb dL_bind_148 (lv_at hl 10 rfl) ?_
    refine lv_iconst (v := 4) hx hb dL_bind_150 (by decide) ?_
    refine lv_iload hx hb dL_bind_151 (lv_at hl 12 rfl) ?_
    refine lv_imul hx hb dL_bind_153 ?_
    refine lv_iconst (v := 2) hx hb dL_bind_154 (by decide) ?_
    refine w_iast B hw (i := 151) (kw151 _) g_3 dL_bind_155 hf (fun M_9 H locs hw hf => ?_)
    refine lv_aload hx hb dL_bind_156 (lv_at hl 10 rfl) ?_
    refine lv_iconst (v := 4) hx hb dL_bind_158 (by decide) ?_
    refine lv_iload hx hb dL_bind_159 (lv_at hl 12 rfl) ?_
    refine lv_imul hx hb dL_bind_161 ?_
    refine lv_iconst (v := 1) hx hb dL_bind_162 (by decide) ?_
    refine lv_iadd hx hb dL_bind_163 ?_
    refine lv_aload_n hx hb dL_bind_164 rfl (lv_at hl 0 rfl) ?_
    refine lv_aload_n hx hb dL_bind_165 rfl (lv_at hl 1 rfl) ?_
    refine lv_aload_n hx hb dL_bind_166 rfl (lv_at hl 2 rfl) ?_
    refine lv_aload_n hx hb dL_bind_167 rfl (lv_at hl 3 rfl) ?_
    refine lv_aload hx hb dL_bind_168 (lv_at hl 4 rfl) ?_
    refine lv_aload hx hb dL_bind_170 (lv_at hl 5 rfl) ?_
    refine lv_aload hx hb dL_bind_172 (lv_at hl 6 rfl) ?_
    refine lv_aload hx hb dL_bind_174 (lv_at hl 7 rfl) ?_
    refine lv_aload hx hb dL_bind_176 (lv_at hl 8 rfl) ?_
    refine lv_aload hx hb dL_bind_178 (lv_at hl 9 rfl) ?_
    refine lv_aload hx hb dL_bind_180 (lv_at hl 11 rfl) ?_
    refine lv_iload hx hb dL_bind_182 (lv_at hl 12 rfl) ?_
    obtain ⟨r_11, M_12, h_10, hf⟩ := bm_e hf
    refine q_callSi (M' := M_12) (As := [.ref (X.2.2 142), .ref (X.2.2 143), .ref (X.2.2 144), .ref (X.2.2 145), .ref (X.2.2 146), .ref (X.2.2 147), .ref (X.2.2 148), .ref (X.2.2 153), .ref (X.2.2 149), .ref (X.2.2 150), .ref (X.2.2 152), .int p14]) (rest := [.int ((4 * p14) + 1), .ref (X.2.2 151)]) B hw (c_L_scan l _ X fu p14 M_9 (r_11, M_12) h_10 _) cs_L_267 rfl hl.1 rfl rfl ⟨(Nat.le_of_ble_eq_true rfl), (Nat.le_of_ble_eq_true rfl)⟩ (Nat.le_of_ble_eq_true rfl) ⟨(Nat.le_of_ble_eq_true rfl), (Nat.le_of_ble_eq_true rfl)⟩ dL_bind_184 rfl (fun H locs hw => ?_)
    refine nmv_e hf (fun kk => ∀ (H : Heap) (locs : List Loc), HW (LW [(20, 10)]) X M_12 s H locs → W p l e rm_L_bind s m args below meth c H locs 0 0 Q (F0 m 195 ls [.int kk, .int ((4 * p14) + 1), .ref (X.2.2 151)])) (fun J => ?_) (fun v_14 hf H locs hw => ?_)
    · refine lv_if_eq (tgt := 194) hx hb dL_bind_187 (by decide) (fun c_13 => ?_) (fun c_13 => ?_)
      · rw [if_pos (show r_11 = 0 from c_13)] at J
        refine lv_iconst (v := 0) hx hb dL_bind_194 (by decide) ?_
        exact J _ _ hw
      · rw [if_neg (show ¬ (r_11 = 0) from c_13)] at J
        refine lv_iconst (v := 1) hx hb dL_bind_190 (by decide) ?_
        refine lv_goto (tgt := 195) hx hb dL_bind_191 (by decide) ?_
        exact J _ _ hw
    · refine w_iast B hw (i := 151) (kw151 _) g_5 dL_bind_195 hf (fun M_15 H locs hw hf => ?_)
      cases hf
      subst hQ
      exact q_vret B hr hlk hw rfl dL_bind_196
  have hL_27 : ∀ (n_27 : Nat) (x17_16 : Int32) (M_17 : Mem) (H : Heap) (locs : List Loc) (ls : Array Slot), HW (LW [(20, 10)]) X M_17 s H locs → lv_has ls 18 [(0, .ref (X.2.2 142)), (1, .ref (X.2.2 143)), (2, .ref (X.2.2 144)), (3, .ref (X.2.2 145)), (4, .ref (X.2.2 146)), (5, .ref (X.2.2 147)), (6, .ref (X.2.2 148)), (7, .ref (X.2.2 153)), (8, .ref (X.2.2 149)), (9, .ref (X.2.2 150)), (10, .ref (X.2.2 151)), (11, .ref (X.2.2 152)), (12, .ref (X.2.2 157)), (13, .int p13), (14, .int p14), (15, .int p15), (16, .int p16), (17, .int x17_16)] → f_L_bind_L27 fu p13 p14 p15 p16 k148_7 n_27 x17_16 M_17 = some rs → W p l e rm_L_bind s m args below meth c H locs 0 0 Q (F0 m 27 ls []) := by
    intro n_27
    induction n_27 with
    | zero => intro x17_16 M_17 H locs ls hw hl hf; exact no_none hf
    | succ n_27 ih_27 =>
      intro x17_16 M_17 H locs ls hw hl hf
      rw [f_L_bind_L27] at hf
      refine lv_iload hx hb dL_bind_27 (lv_at hl 17 rfl) ?_
      refine lv_iload hx hb dL_bind_29 (lv_at hl 13 rfl) ?_
      refine lv_icmp_ge (tgt := 203) hx hb dL_bind_31 (by decide) (fun c_18 => ?_) (fun c_18 => ?_)
      · have hf := it_e hf c_18
        cases hf
        subst hQ
        exact q_vret B hr hlk hw rfl dL_bind_203
      · have hf := ie_e hf c_18
        refine lv_aload_n hx hb dL_bind_34 rfl (lv_at hl 2 rfl) ?_
        refine lv_aload_n hx hb dL_bind_35 rfl (lv_at hl 3 rfl) ?_
        refine lv_aload hx hb dL_bind_36 (lv_at hl 5 rfl) ?_
        refine lv_aload hx hb dL_bind_38 (lv_at hl 6 rfl) ?_
        refine lv_aload hx hb dL_bind_40 (lv_at hl 11 rfl) ?_
        refine lv_aload hx hb dL_bind_42 (lv_at hl 4 rfl) ?_
        refine lv_bipush (v := 6) hx hb dL_bind_44 (by decide) ?_
        refine lv_iload hx hb dL_bind_46 (lv_at hl 14 rfl) ?_
        refine lv_iadd hx hb dL_bind_48 ?_
        obtain ⟨g_19, hf⟩ := grd_e hf
        refine w_iald B hw (i := 146) (kw146 _) g_19 dL_bind_49 ?_
        refine lv_iconst (v := 2) hx hb dL_bind_50 (by decide) ?_
        refine lv_idiv hx hb dL_bind_51 (by decide) ?_
        obtain ⟨r_21, M_22, h_20, hf⟩ := bm_e hf
        refine q_callSi (M' := M_22) (As := [.ref (X.2.2 144), .ref (X.2.2 145), .ref (X.2.2 147), .ref (X.2.2 148), .ref (X.2.2 152), .int ((M_17 146 (6 + p14).toNatClampNeg) / 2)]) (rest := []) B hw (c_L_request l _ X fu ((M_17 146 (6 + p14).toNatClampNeg) / 2) M_17 (r_21, M_22) h_20 _) cs_L_236 rfl hl.1 rfl rfl ⟨(Nat.le_of_ble_eq_true rfl), (Nat.le_of_ble_eq_true rfl)⟩ (Nat.le_of_ble_eq_true rfl) ⟨(Nat.le_of_ble_eq_true rfl), (Nat.le_of_ble_eq_true rfl)⟩ dL_bind_52 rfl (fun H locs hw => ?_)
        refine lv_if_ne (tgt := 69) hx hb dL_bind_55 (by decide) (fun c_23 => ?_) (fun c_23 => ?_)
        · have hf := ie_e hf c_23
          refine lv_aload_n hx hb dL_bind_69 rfl (lv_at hl 0 rfl) ?_
          refine lv_aload_n hx hb dL_bind_70 rfl (lv_at hl 1 rfl) ?_
          refine lv_aload_n hx hb dL_bind_71 rfl (lv_at hl 3 rfl) ?_
          refine lv_aload hx hb dL_bind_72 (lv_at hl 4 rfl) ?_
          refine lv_aload hx hb dL_bind_74 (lv_at hl 8 rfl) ?_
          refine lv_aload hx hb dL_bind_76 (lv_at hl 9 rfl) ?_
          refine lv_aload hx hb dL_bind_78 (lv_at hl 11 rfl) ?_
          refine lv_iload hx hb dL_bind_80 (lv_at hl 14 rfl) ?_
          refine lv_iload hx hb dL_bind_82 (lv_at hl 15 rfl) ?_
          refine lv_aload hx hb dL_bind_84 (lv_at hl 12 rfl) ?_
          refine lv_iload hx hb dL_bind_86 (lv_at hl 17 rfl) ?_
          refine lv_iload hx hb dL_bind_88 (lv_at hl 17 rfl) ?_
          refine lv_iconst (v := 4) hx hb dL_bind_90 (by decide) ?_
          refine lv_iadd hx hb dL_bind_91 ?_
          refine lv_iload hx hb dL_bind_92 (lv_at hl 13 rfl) ?_
          refine nmv_e hf (fun kk => ∀ (H : Heap) (locs : List Loc), HW (LW [(20, 10)]) X M_22 s H locs → W p l e rm_L_bind s m args below meth c H locs 0 0 Q (F0 m 106 ls [.int kk, .int x17_16, .ref (X.2.2 157), .int p15, .int p14, .ref (X.2.2 152), .ref (X.2.2 150), .ref (X.2.2 149), .ref (X.2.2 146), .ref (X.2.2 145), .ref (X.2.2 143), .ref (X.2.2 142)])) (fun J => ?_) (fun v_25 hf H locs hw => ?_)
          · refine lv_icmp_ge (tgt := 104) hx hb dL_bind_94 (by decide) (fun c_24 => ?_) (fun c_24 => ?_)
            · rw [if_pos (show p13 ≤ (x17_16 + 4) from c_24)] at J
              refine lv_iload hx hb dL_bind_104 (lv_at hl 13 rfl) ?_
              exact J _ _ hw
            · rw [if_neg (show ¬ (p13 ≤ (x17_16 + 4)) from c_24)] at J
              refine lv_iload hx hb dL_bind_97 (lv_at hl 17 rfl) ?_
              refine lv_iconst (v := 4) hx hb dL_bind_99 (by decide) ?_
              refine lv_iadd hx hb dL_bind_100 ?_
              refine lv_goto (tgt := 106) hx hb dL_bind_101 (by decide) ?_
              exact J _ _ hw
          · obtain ⟨M_27, h_26, hf⟩ := bd_e hf
            refine q_callSv (M' := M_27) (As := [.ref (X.2.2 142), .ref (X.2.2 143), .ref (X.2.2 145), .ref (X.2.2 146), .ref (X.2.2 149), .ref (X.2.2 150), .ref (X.2.2 152), .int p14, .int p15, .ref (X.2.2 157), .int x17_16, .int v_25]) (rest := []) B hw (c_L_come l _ X fu p14 p15 157 10 x17_16 v_25 M_22 rfl M_27 h_26 _) cs_L_240 rfl hl.1 rfl rfl ⟨(Nat.le_of_ble_eq_true rfl), (Nat.le_of_ble_eq_true rfl)⟩ (Nat.le_of_ble_eq_true rfl) ⟨(Nat.le_of_ble_eq_true rfl), (Nat.le_of_ble_eq_true rfl)⟩ dL_bind_106 rfl (fun H locs hw => ?_)
            refine lv_aload hx hb dL_bind_109 (lv_at hl 10 rfl) ?_
            refine lv_iconst (v := 4) hx hb dL_bind_111 (by decide) ?_
            refine lv_iload hx hb dL_bind_112 (lv_at hl 14 rfl) ?_
            refine lv_imul hx hb dL_bind_114 ?_
            refine lv_iconst (v := 1) hx hb dL_bind_115 (by decide) ?_
            refine lv_iadd hx hb dL_bind_116 ?_
            refine lv_dup2_11 hx hb dL_bind_117 rfl rfl ?_
            obtain ⟨g_28, hf⟩ := grd_e hf
            refine w_iald B hw (i := 151) (kw151 _) g_28 dL_bind_118 ?_
            refine lv_aload hx hb dL_bind_119 (lv_at hl 11 rfl) ?_
            refine lv_bipush (v := 14) hx hb dL_bind_121 (by decide) ?_
            refine w_iald B hw (i := 152) (kw152 _) (by decide) dL_bind_123 ?_
            refine lv_ior hx hb dL_bind_124 ?_
            refine w_iast B hw (i := 151) (kw151 _) g_28 dL_bind_125 hf (fun M_29 H locs hw hf => ?_)
            refine lv_iload hx hb dL_bind_126 (lv_at hl 17 rfl) ?_
            refine lv_iconst (v := 4) hx hb dL_bind_128 (by decide) ?_
            refine lv_iadd hx hb dL_bind_129 ?_
            refine lv_iload hx hb dL_bind_130 (lv_at hl 13 rfl) ?_
            refine lv_icmp_ge (tgt := 197) hx hb dL_bind_132 (by decide) (fun c_30 => ?_) (fun c_30 => ?_)
            · have hf := it_e hf c_30
              refine r_iinc (v := (x17_16 + 4)) hx hb dL_bind_197 hl (k := 17) rfl rfl (by decide) hf (fun x17_31 ls hl hf => ?_)
              have hl : lv_has ls 18 [(17, .int x17_31), (0, .ref (X.2.2 142)), (1, .ref (X.2.2 143)), (2, .ref (X.2.2 144)), (3, .ref (X.2.2 145)), (4, .ref (X.2.2 146)), (5, .ref (X.2.2 147)), (6, .ref (X.2.2 148)), (7, .ref (X.2.2 153)), (8, .ref (X.2.2 149)), (9, .ref (X.2.2 150)), (10, .ref (X.2.2 151)), (11, .ref (X.2.2 152)), (12, .ref (X.2.2 157)), (13, .int p13), (14, .int p14), (15, .int p15), (16, .int p16)] := hl
              refine lv_goto (tgt := 27) hx hb dL_bind_200 (by decide) ?_
              exact ih_27 x17_31 M_29 _ _ _ hw (lv_sub hl [1, 2, 3, 4, 5, 6, 7, 8, 9, 10, 11, 12, 13, 14, 15, 16, 17, 0] rfl) hf
            · have hf := ie_e hf c_30
              refine lv_aload hx hb dL_bind_135 (lv_at hl 11 rfl) ?_
              refine lv_bipush (v := 13) hx hb dL_bind_137 (by decide) ?_
              refine w_iald B hw (i := 152) (kw152 _) (by decide) dL_bind_139 ?_
              refine lv_iload hx hb dL_bind_140 (lv_at hl 16 rfl) ?_
              refine lv_icmp_ge (tgt := 148) hx hb dL_bind_142 (by decide) (fun c_32 => ?_) (fun c_32 => ?_)
              · have hf := it_e hf c_32
                exact J148_7 M_29 _ _ _ hw (lv_sub hl [0, 1, 2, 3, 4, 5, 6, 7, 8, 9, 10, 11, 14] rfl) hf
              · have hf := ie_e hf c_32
                refine lv_goto (tgt := 197) hx hb dL_bind_145 (by decide) ?_
                refine r_iinc (v := (x17_16 + 4)) hx hb dL_bind_197 hl (k := 17) rfl rfl (by decide) hf (fun x17_33 ls hl hf => ?_)
                have hl : lv_has ls 18 [(17, .int x17_33), (0, .ref (X.2.2 142)), (1, .ref (X.2.2 143)), (2, .ref (X.2.2 144)), (3, .ref (X.2.2 145)), (4, .ref (X.2.2 146)), (5, .ref (X.2.2 147)), (6, .ref (X.2.2 148)), (7, .ref (X.2.2 153)), (8, .ref (X.2.2 149)), (9, .ref (X.2.2 150)), (10, .ref (X.2.2 151)), (11, .ref (X.2.2 152)), (12, .ref (X.2.2 157)), (13, .int p13), (14, .int p14), (15, .int p15), (16, .int p16)] := hl
                refine lv_goto (tgt := 27) hx hb dL_bind_200 (by decide) ?_
                exact ih_27 x17_33 M_29 _ _ _ hw (lv_sub hl [1, 2, 3, 4, 5, 6, 7, 8, 9, 10, 11, 12, 13, 14, 15, 16, 17, 0] rfl) hf
        · have hf := it_e hf c_23
          refine lv_aload hx hb dL_bind_58 (lv_at hl 10 rfl) ?_
          refine lv_iconst (v := 4) hx hb dL_bind_60 (by decide) ?_
          refine lv_iload hx hb dL_bind_61 (lv_at hl 14 rfl) ?_
          refine lv_imul hx hb dL_bind_63 ?_
          refine lv_iconst (v := 1) hx hb dL_bind_64 (by decide) ?_
          refine lv_iadd hx hb dL_bind_65 ?_
          refine lv_iconst (v := 1) hx hb dL_bind_66 (by decide) ?_
          obtain ⟨g_34, hf⟩ := grd_e hf
          refine w_iast B hw (i := 151) (kw151 _) g_34 dL_bind_67 hf (fun M_35 H locs hw hf => ?_)
          cases hf
          subst hQ
          exact q_vret B hr hlk hw rfl dL_bind_68
  exact hL_27 fu 0 M_6 _ _ _ hw (lv_sub hl [1, 2, 3, 4, 5, 6, 7, 8, 9, 10, 11, 12, 13, 14, 15, 16, 17, 0] rfl) hf
