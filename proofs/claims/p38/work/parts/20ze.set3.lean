/-! ===== settings: the turn ===== -/
section Set3L
variable {fu t u t1 u1 k0 s a b k : Nat} {M m N n M1 M0 m0 : Mem} {w v e p1 p2 p3 : Int32}
theorem set_0 (h : INV M m t u) (ht : t < 2 ^ 29) (hu : u < 2 ^ 29) (hs : s < 3) (ha : a ≤ 30) (hb : b ≤ 60) : RES (bm (f_L_setPace fu 3 31 0 M) (fun r_156 M_157 => (if r_156 = (-7100) then bm (f_L_setPace fu (nI s) 31 0 M_157) (fun r_160 M_161 => (if r_160 = (-7200) then bm (f_L_setPace fu (nI s) 0 61 M_161) (fun r_164 M_165 => (if r_164 = (-7200) then bm (f_L_setPace fu (nI s) (-1) 0 M_165) (fun r_168 M_169 => (if r_168 = (-7200) then grd (inb (nI s) 27) (nm (M_169 145 (nI s).toNatClampNeg) (fun x13_172 => nm (up M_169 145 (nI s).toNatClampNeg (nI a)) (fun M_173 => grd (inb (3 + (nI s)) 27) (nm (up M_173 145 (3 + (nI s)).toNatClampNeg (nI b)) (fun M_175 => bm (f_L_setPace fu (nI s) (nI a) (nI b) M_175) (fun r_177 M_178 => (if r_177 = x13_172 then some ((1 : Int32), M_178) else some ((0 : Int32), M_178)))))))) else some ((0 : Int32), M_169))) else some ((0 : Int32), M_165))) else some ((0 : Int32), M_161))) else some ((0 : Int32), M_157)))) t u := by
  refine ech (setPace_e h.sm ht hu (Or.inl rfl) (by decide)) fun M2 m2 h2 => ?_
  refine ech (setPace_e (k0 := 2) h2 ht hu (Or.inr rfl) (by rw [if_neg (isSt hs)]; decide)) fun M3 m3 h3 => ?_
  refine ech (setPace_e (k0 := 2) h3 ht hu (Or.inr rfl) (by rw [if_neg (isSt hs)]; decide)) fun M4 m4 h4 => ?_
  refine ech (setPace_e (k0 := 2) h4 ht hu (Or.inr rfl) (by rw [if_neg (isSt hs)]; decide)) fun M5 m5 h5 => ?_
  have e1 : (3 : Int32) + nI s = nI (3 + s) := nI_add 3 s
  have hL := h.1.sm h5
  simp (disch := omega) only [e1, inb_nI, grd_true, nI_clamp, nm_d]
  have hL2 := hL.pace hs ha hb
  have hR2 : REL (up (up M5 145 s (nI a)) 145 (3 + s) (nI b)) m5 t u := h5.1.cgC (fun x hx => by rw [up_n (by omega), up_n (by omega)])
  obtain ⟨M6, a1, a2, a3⟩ := rCall (k0 := 0) (cs := [1, 2]) hL2 (setPace_call (fu := fu) (p1 := nI s) (p2 := nI a) (p3 := nI b) hR2) (xsP hs ha hb) (by rw [up_n (by omega), up_n (by omega), up_s]; rfl) (by decide) (by decide) (by decide) ht (by omega) hu
  exact fin1 ⟨M6, _, a1, a2⟩ (by rw [if_pos rfl]; exact ((hL.pl.1 s hs).1).symm) (by omega) (by omega) (by omega) (by omega)
theorem set_1 (h : INV M m t u) (ht : t < 2 ^ 29) (hu : u < 2 ^ 29) (hs : s < 3) (h1 : 1 ≤ a) (ha : a ≤ 20) (hb : b ≤ 12) : RES (bm (f_L_setBounds fu (-1) 0 0 M) (fun r_114 M_115 => (if r_114 = (-7100) then bm (f_L_setBounds fu (nI s) 0 0 M_115) (fun r_118 M_119 => (if r_118 = (-7200) then bm (f_L_setBounds fu (nI s) 21 0 M_119) (fun r_122 M_123 => (if r_122 = (-7200) then bm (f_L_setBounds fu (nI s) 1 13 M_123) (fun r_126 M_127 => (if r_126 = (-7200) then bm (f_L_setBounds fu (nI s) 1 (-1) M_127) (fun r_130 M_131 => (if r_130 = (-7200) then grd (inb (6 + (nI s)) 27) (nm (M_131 145 (6 + (nI s)).toNatClampNeg) (fun x13_134 => nm (up M_131 145 (6 + (nI s)).toNatClampNeg (nI a)) (fun M_135 => grd (inb (9 + (nI s)) 27) (nm (up M_135 145 (9 + (nI s)).toNatClampNeg (nI b)) (fun M_137 => bm (f_L_setBounds fu (nI s) (nI a) (nI b) M_137) (fun r_139 M_140 => (if r_139 = x13_134 then some ((1 : Int32), M_140) else some ((0 : Int32), M_140)))))))) else some ((0 : Int32), M_131))) else some ((0 : Int32), M_127))) else some ((0 : Int32), M_123))) else some ((0 : Int32), M_119))) else some ((0 : Int32), M_115)))) t u := by
  refine ech (setBounds_e h.sm ht hu (Or.inl rfl) (by decide)) fun M2 m2 h2 => ?_
  refine ech (setBounds_e (k0 := 2) h2 ht hu (Or.inr rfl) (by rw [if_neg (isSt hs)]; decide)) fun M3 m3 h3 => ?_
  refine ech (setBounds_e (k0 := 2) h3 ht hu (Or.inr rfl) (by rw [if_neg (isSt hs)]; decide)) fun M4 m4 h4 => ?_
  refine ech (setBounds_e (k0 := 2) h4 ht hu (Or.inr rfl) (by rw [if_neg (isSt hs)]; decide)) fun Ma ma ha' => ?_
  refine ech (setBounds_e (k0 := 2) ha' ht hu (Or.inr rfl) (by rw [if_neg (isSt hs)]; decide)) fun M5 m5 h5 => ?_
  have e1 : (6 : Int32) + nI s = nI (6 + s) := nI_add 6 s
  have e2 : (9 : Int32) + nI s = nI (9 + s) := nI_add 9 s
  have hL := h.1.sm h5
  simp (disch := omega) only [e1, e2, inb_nI, grd_true, nI_clamp, nm_d]
  have hL2 := hL.bnd (a := a) hs hb
  have hR2 : REL (up (up M5 145 (6 + s) (nI a)) 145 (9 + s) (nI b)) m5 t u := h5.1.cgC (fun x hx => by rw [up_n (by omega), up_n (by omega)])
  obtain ⟨M6, a1, a2, a3⟩ := rCall (k0 := 0) (cs := [1, 2]) hL2 (setBounds_call (fu := fu) (p1 := nI s) (p2 := nI a) (p3 := nI b) hR2) (xsB hs h1 ha hb) (by rw [up_n (by omega), up_n (by omega), up_s]; rfl) (by decide) (by decide) (by decide) ht (by omega) hu
  exact fin1 ⟨M6, _, a1, a2⟩ (by rw [if_pos rfl]; exact ((hL.pl.1 s hs).2.2.1).symm) (by omega) (by omega) (by omega) (by omega)
theorem set_2 (hfu : 5000 ≤ fu) (h : INV M m t u) (ht : t < 2 ^ 27) (hu : u < 2 ^ 29) (hs : s < 3) (ha : a ≤ 200) : RES (bm (f_L_setLease fu 3 0 M) (fun r_84 M_85 => (if r_84 = (-7100) then bm (f_L_setLease fu (nI s) 201 M_85) (fun r_88 M_89 => (if r_88 = (-7200) then bm (f_L_setLease fu (nI s) (-1) M_89) (fun r_92 M_93 => (if r_92 = (-7200) then grd (inb (12 + (nI s)) 27) (nm (M_93 145 (12 + (nI s)).toNatClampNeg) (fun x12_96 => nm (up M_93 145 (12 + (nI s)).toNatClampNeg (nI a)) (fun M_97 => bd (f_L_age fu M_97) (fun M_99 => bm (f_L_setLease fu (nI s) (nI a) M_99) (fun r_101 M_102 => (if r_101 = x12_96 then some ((1 : Int32), M_102) else some ((0 : Int32), M_102))))))) else some ((0 : Int32), M_93))) else some ((0 : Int32), M_89))) else some ((0 : Int32), M_85)))) t u := by
  have ht' : t < 2 ^ 29 := by omega
  refine ech (setLease_e hfu h.sm ht' hu (Or.inl rfl) (by decide)) fun M2 m2 h2 => ?_
  refine ech (setLease_e (k0 := 2) hfu h2 ht' hu (Or.inr rfl) (by rw [if_neg (isSt hs)]; decide)) fun M3 m3 h3 => ?_
  refine ech (setLease_e (k0 := 2) hfu h3 ht' hu (Or.inr rfl) (by rw [if_neg (isSt hs)]; decide)) fun M5 m5 h5 => ?_
  have e1 : (12 : Int32) + nI s = nI (12 + s) := nI_add 12 s
  have hL := h.1.sm h5
  obtain ⟨N, n, w1, w2, w3, w4, w5⟩ := hL.lease hfu hs ha ht
  simp (disch := omega) only [e1, inb_nI, grd_true, nI_clamp, nm_d, w1, bd_some]
  obtain ⟨M6, a1, a2, a3⟩ := rCall (k0 := 0) (cs := [1, 2]) w3 (setLease_call (p1 := nI s) (p2 := nI a) hfu (h5.1.cgC w4) ht') (xsL hs ha w2) (by rw [w5]; rfl) (by decide) (by decide) (by decide) ht' (by omega) hu
  exact fin1 ⟨M6, _, a1, a2⟩ (by rw [if_pos rfl]; exact ((hL.pl.1 s hs).2.2.2.2.1).symm) (by omega) (by omega) (by omega) (by omega)
theorem set_3 (h : INV M m t u) (ht : t < 2 ^ 29) (hu : u < 2 ^ 29) (hs : s < 3) (ha : a ≤ 20) (hv : v = 0 ∨ v = 1) : RES (bm (f_L_fail fu 3 0 v M) (fun r_57 M_58 => (if r_57 = (-7100) then bm (f_L_fail fu (nI s) 21 v M_58) (fun r_61 M_62 => (if r_61 = (-7200) then bm (f_L_fail fu (nI s) (-1) v M_62) (fun r_65 M_66 => (if r_65 = (-7200) then grd (inb (15 + (nI s)) 27) (nm (M_66 145 (15 + (nI s)).toNatClampNeg) (fun x13_69 => nm (up M_66 145 (15 + (nI s)).toNatClampNeg (nI a)) (fun M_70 => nm ((if v = 0 then 0 else 1) : Int32) (fun v_72 => grd (inb (18 + (nI s)) 27) (nm (up M_70 145 (18 + (nI s)).toNatClampNeg v_72) (fun M_74 => bm (f_L_fail fu (nI s) (nI a) v M_74) (fun r_76 M_77 => (if r_76 = x13_69 then some ((1 : Int32), M_77) else some ((0 : Int32), M_77))))))))) else some ((0 : Int32), M_66))) else some ((0 : Int32), M_62))) else some ((0 : Int32), M_58)))) t u := by
  have hb : isb v = true := by rcases hv with rfl | rfl <;> rfl
  refine ech (fail_e h.sm ht hu (Or.inl rfl) hb (by decide)) fun M2 m2 h2 => ?_
  refine ech (fail_e (k0 := 2) h2 ht hu (Or.inr rfl) hb (by rw [if_neg (isSt hs)]; decide)) fun M3 m3 h3 => ?_
  refine ech (fail_e (k0 := 2) h3 ht hu (Or.inr rfl) hb (by rw [if_neg (isSt hs)]; decide)) fun M5 m5 h5 => ?_
  have e1 : (15 : Int32) + nI s = nI (15 + s) := nI_add 15 s
  have e2 : (18 : Int32) + nI s = nI (18 + s) := nI_add 18 s
  have e3' : (if v = 0 then (0 : Int32) else 1) = v := by rcases hv with rfl | rfl <;> rfl
  have hL := h.1.sm h5
  simp (disch := omega) only [e1, e2, e3', inb_nI, grd_true, nI_clamp, nm_d]
  have hL2 := hL.fails (v := v) hs ha
  have hR2 : REL (up (up M5 145 (15 + s) (nI a)) 145 (18 + s) v) m5 t u := h5.1.cgC (fun x hx => by rw [up_n (by omega), up_n (by omega)])
  obtain ⟨M6, a1, a2, a3⟩ := rCall (k0 := 0) (cs := [1, 2]) hL2 (fail_call (fu := fu) (p1 := nI s) (p2 := nI a) (p3 := v) hR2 hb) (xsF hs ha hb) (by rw [up_n (by omega), up_n (by omega), up_s]; rfl) (by decide) (by decide) (by decide) ht (by omega) hu
  exact fin1 ⟨M6, _, a1, a2⟩ (by rw [if_pos rfl]; exact ((hL.pl.1 s hs).2.2.2.2.2.1).symm) (by omega) (by omega) (by omega) (by omega)
theorem frb8 : ∀ (k : Fin 8) (s : Fin 3), (∃ q : Fin 8, (nI k.val &&& ((1 <<< (nI s.val &&& 31)) ^^^ (-1))) = nI q.val) ∧ (∃ q : Fin 8, (nI k.val ||| (1 <<< (nI s.val &&& 31))) = nI q.val) := by decide +kernel
theorem set_4 (h : INV M m t u) (ht : t < 2 ^ 29) (hu : u < 2 ^ 29) (hs : s < 3) (ha : a < 6) (hv : v = 0 ∨ v = 1) : RES (grd (inb (8 + nI a) 14) (nm ((if (((M 153 (8 + nI a).toNatClampNeg) >>> (nI s &&& 31)) &&& 1) = 1 then 1 else 0) : Int32) (fun v_34 => nm ((if v = 0 then ((M 153 (8 + nI a).toNatClampNeg) &&& ((1 <<< (nI s &&& 31)) ^^^ (-1))) else ((M 153 (8 + nI a).toNatClampNeg) ||| (1 <<< (nI s &&& 31)))) : Int32) (fun v_36 => nm (up M 153 (8 + nI a).toNatClampNeg v_36) (fun M_37 => bm (f_L_forbid fu 6 0 v M_37) (fun r_39 M_40 => (if r_39 = (-7100) then bm (f_L_forbid fu 0 3 v M_40) (fun r_43 M_44 => (if r_43 = (-7100) then bm (f_L_forbid fu (nI a) (nI s) v M_44) (fun r_47 M_48 => nm ((if v_34 = 0 then 0 else 1) : Int32) (fun v_50 => (if r_47 = v_50 then some ((1 : Int32), M_48) else some ((0 : Int32), M_48)))) else some ((0 : Int32), M_44))) else some ((0 : Int32), M_40)))))))) t u := by
  have hb : isb v = true := by rcases hv with rfl | rfl <;> rfl
  have e1 : (8 : Int32) + nI a = nI (8 + a) := nI_add 8 a
  obtain ⟨_, _, _, hF⟩ := h.1.pl
  obtain ⟨f1, k, f2, f3⟩ := hF a ha
  obtain ⟨⟨q1, q1'⟩, ⟨q2, q2'⟩⟩ := frb8 ⟨k, f2⟩ ⟨s, hs⟩
  dsimp only at q1' q2'
  obtain ⟨q, q8, hq⟩ : ∃ q, q < 8 ∧ (if v = 0 then (m 17 a &&& ((1 <<< (nI s &&& 31)) ^^^ (-1))) else (m 17 a ||| (1 <<< (nI s &&& 31)))) = nI q := by
    rw [f3]
    by_cases z : v = 0
    · exact ⟨q1, q1.2, by rw [if_pos z]; exact q1'⟩
    · exact ⟨q2, q2.2, by rw [if_neg z]; exact q2'⟩
  simp (disch := omega) only [e1, inb_nI, grd_true, nI_clamp, nm_d, f1, hq]
  have hS1 : SM (up M 153 (8 + a) (nI q)) m (up M 153 (8 + a) (nI q)) m t u := ⟨h.2.cgC (fun x hx => up_n (by omega)), fun _ _ => rfl, .rfl⟩
  refine ech (forbid_e hS1 ht hu hb (by decide)) fun M2 m2 h2 => ?_
  refine ech (forbid_e h2 ht hu hb (by decide)) fun M5 m5 h5 => ?_
  have hL := h.1.frb ha q8
  have hE : EQ0 (up (up m5 0 0 0) 17 a (nI q)) (up (up m 0 0 0) 17 a (nI q)) := by
    refine ⟨fun x hx => ?_, fun j hj => ?_⟩
    · by_cases z : x = 17
      · subst z; rw [up_a, up_a, up_n (by omega), up_n (by omega), h5.2.2.1 17 (by omega)]
      · rw [up_n z, up_n z, up_n hx, up_n hx, h5.2.2.1 x hx]
    · simp (disch := omega) only [up_n, up_m, h5.2.2.2 j hj]
  have hL2 : LR M5 (up (up m5 0 0 0) 17 a (nI q)) t u := hL.cg (fun x z _ => h5.2.1 x z) hE h5.1.e3c
  have g17 : m5 17 a = m 17 a := by rw [h5.2.2.1 17 (by omega)]
  have hx : f_X11_forbid fu (nI a) (nI s) v m5 = some (if ((m 17 a >>> (nI s &&& 31)) &&& 1) = 1 then 1 else 0, up (up m5 0 0 0) 17 a (nI q)) := by
    have hi : f_X11_isForbidden fu (nI a) (nI s) (up m5 0 0 0) = some (if ((m 17 a >>> (nI s &&& 31)) &&& 1) = 1 then 1 else 0) := by
      simp (disch := omega) only [f_X11_isForbidden, inb_nI, grd_true, nI_clamp, up_n, g17]
      by_cases z : ((m 17 a >>> (nI s &&& 31)) &&& 1) = 1
      · simp [z]
      · simp [z]
    have hib : isb (if ((m 17 a >>> (nI s &&& 31)) &&& 1) = 1 then (1 : Int32) else 0) = true := by split <;> rfl
    simp (disch := omega) only [f_X11_forbid, nm_d, isSr ha, isSt hs, if_false, up_s, Int32.le_refl, if_true, hi, bd_some, jn_d, inb_nI, grd_true, nI_clamp, up_n, g17, hib]
    by_cases z : v = 0
    · rw [if_pos z] at hq ⊢; rw [hq]
    · rw [if_neg z] at hq ⊢; rw [hq]
  obtain ⟨M6, a1, a2, a3⟩ := rCallz (k0 := 0) (cs := [1]) hL2 (forbid_call (fu := fu) (p1 := nI a) (p2 := nI s) (p3 := v) h5.1 hb) hx (by rw [up_n (by omega), up_s]; rfl) (by decide) (by decide) (by decide) ht (by omega) hu
  refine fin1 ⟨M6, _, a1, a2⟩ ?_ (by omega) (by omega) (by omega) (by omega)
  rw [if_pos rfl]
theorem set_5 (hfu : 5000 ≤ fu) (h : INV M m t u) (ht : t < 2 ^ 26) (hu : u < 2 ^ 29) (h1 : 1 ≤ a) (ha : a ≤ 100) : RES (nm (up M 152 1 ((M 152 1) + nI a)) (fun M_13 => bd (f_L_age fu M_13) (fun M_15 => bm (f_L_pass fu 0 M_15) (fun r_17 M_18 => (if r_17 = (-7200) then bm (f_L_pass fu 101 M_18) (fun r_21 M_22 => (if r_21 = (-7200) then bm (f_L_pass fu (nI a) M_22) (fun r_25 M_26 => (if r_25 = (M_26 152 1) then some ((1 : Int32), M_26) else some ((0 : Int32), M_26))) else some ((0 : Int32), M_22))) else some ((0 : Int32), M_18)))))) t u := by
  have ht' : t < 2 ^ 29 := by omega
  obtain ⟨N, n, w1, w2, w3, w4, w5⟩ := h.1.pass (a := a) hfu (by omega)
  have e1 : M 152 1 + nI a = nI (t + a) := by rw [h.1.tt.2.2.1, nI_add]
  rw [nm_d, e1, w1, bd_some]
  have hS1 : SM N m N m t u := ⟨h.2.cgC w4, fun _ _ => rfl, .rfl⟩
  refine ech (pass_e hfu hS1 ht' hu (by decide)) fun M2 m2 h2 => ?_
  refine ech (pass_e hfu h2 ht' hu (by decide)) fun M5 m5 h5 => ?_
  have hL5 : LR M (up m5 0 0 0) t u := h.1.cg (fun _ _ _ => rfl) (EQ0.up0.trans h5.2.2) h.1.e3c
  obtain ⟨N', n', y1, y2, y3, y4, y5⟩ := hL5.pass (a := a) hfu (by omega)
  rw [w1] at y1
  cases y1
  have hup : up (up m5 0 0 0) 0 0 0 = up m5 0 0 0 := by
    funext x j
    by_cases z : x = 0
    · subst z
      by_cases z' : j = 0
      · subst z'; rw [up_s, up_s]
      · rw [up_m z']
    · rw [up_n z]
  rw [hup] at y2
  have hx : f_X11_pass fu (nI a) m5 = some (n' 0 8, n') := by
    have h2 := inN (a := 1) (b := a) (c := 100) (by omega) ha (by omega)
    change ¬ f_X11_in (nI a) 1 100 = 0 at h2
    simp only [f_X11_pass, nm_d, h2, if_false, up_s, Int32.le_refl, if_true, y2, bd_some]
  obtain ⟨M6, a1, a2, a3⟩ := rCall (k0 := 0) (cs := [2]) (y3.cg (fun x z _ => h5.2.1 x z) .rfl h5.1.e3c) (pass_call (p1 := nI a) hfu h5.1 ht') hx (by rw [y5]; rfl) (by decide) (by decide) (by decide) ht' (by omega) hu
  have a1' : f_L_pass fu (nI a) M5 = some (n' 0 8, M6) := a1
  rw [a1', bm_some, if_pos (by rw [a2.1.tt.1, a2.1.tt.2.2.1])]
  exact ⟨M6, n', t + a, u, rfl, a2, by omega, by omega, by omega, by omega⟩
theorem settings_ok (hfu : 5000 ≤ fu) (h : INV M m t u) (ht : t < 2 ^ 26) (hu : u < 2 ^ 29) : RES (f_L_settings fu p1 p2 p3 M) t u := by
  unfold f_L_settings
  refine lowK (j := 3) rfl (by omega) (by omega) fun s hs => RES.if (fun _ => ?_) (fun _ => RES.if (fun _ => ?_) (fun _ => RES.if (fun _ => ?_) (fun _ => RES.if (fun _ => ?_) (fun _ => RES.if (fun _ => ?_) (fun _ => ?_)))))
  · refine lowK (j := 5) rfl (by omega) (by omega) fun k _ => ?_
    refine jnK (P := fun v => ∃ a, a ≤ 30 ∧ v = nI a) ?_ ?_
    · rintro _ ⟨a, ha, rfl⟩
      refine lowK (j := 3) rfl (by omega) (by omega) fun k _ => ?_
      refine jnK (P := fun v => ∃ b, b ≤ 60 ∧ v = nI b) ?_ ?_
      · rintro _ ⟨b, hb, rfl⟩
        exact set_0 h (by omega) hu hs ha hb
      · intro q hq
        exact RES.if (fun _ => lowK (j := 61) rfl (by omega) (by omega) fun k hk => hq _ ⟨k, by omega, rfl⟩) (fun _ => lowK (j := 6) rfl (by omega) (by omega) fun k hk => hq _ ⟨k, by omega, rfl⟩)
    · intro q hq
      exact RES.if (fun _ => lowK (j := 31) rfl (by omega) (by omega) fun k hk => hq _ ⟨k, by omega, rfl⟩) (fun _ => lowK (j := 3) rfl (by omega) (by omega) fun k hk => hq _ ⟨k, by omega, rfl⟩)
  · rw [nm_d]
    obtain ⟨j, j1, j2, j3⟩ : ∃ j, 0 < j ∧ j ≤ 20 ∧ (if (p3 &&& 768) = 0 then (20 : Int32) else 4) = nI j := by
      by_cases z : (p3 &&& 768) = 0
      · exact ⟨20, by omega, by omega, by rw [if_pos z]; rfl⟩
      · exact ⟨4, by omega, by omega, by rw [if_neg z]; rfl⟩
    refine lowK j3 j1 (by omega) fun k hk => ?_
    rw [nm_d]
    refine lowK (j := 3) rfl (by omega) (by omega) fun q _ => ?_
    refine jnK (P := fun v => ∃ a, a ≤ 12 ∧ v = nI a) ?_ ?_
    · rintro _ ⟨b, hb, rfl⟩
      rw [show (1 : Int32) + nI k = nI (1 + k) from nI_add 1 k]
      exact set_1 h (by omega) hu hs (by omega) (by omega) hb
    · intro q hq
      exact RES.if (fun _ => lowK (j := 13) rfl (by omega) (by omega) fun k hk => hq _ ⟨k, by omega, rfl⟩) (fun _ => lowK (j := 5) rfl (by omega) (by omega) fun k hk => hq _ ⟨8 + k, by omega, nI_add 8 k⟩)
  · rw [nm_d]
    obtain ⟨j, j1, j2, j3⟩ : ∃ j, 0 < j ∧ j ≤ 201 ∧ (if (p3 &&& 768) = 0 then (201 : Int32) else 30) = nI j := by
      by_cases z : (p3 &&& 768) = 0
      · exact ⟨201, by omega, by omega, by rw [if_pos z]; rfl⟩
      · exact ⟨30, by omega, by omega, by rw [if_neg z]; rfl⟩
    exact lowK j3 j1 (by omega) fun k hk => set_2 hfu h (by omega) hu hs (by omega)
  · refine lowK (j := 5) rfl (by omega) (by omega) fun k hk => ?_
    rw [nm_d]
    exact set_3 h (by omega) hu hs (by omega) (by split <;> simp)
  · refine lowK (j := 6) rfl (by omega) (by omega) fun k hk => ?_
    rw [nm_d]
    exact set_4 h (by omega) hu hs hk (by split <;> simp)
  · rw [nm_d]
    obtain ⟨j, j1, j2, j3⟩ : ∃ j, 0 < j ∧ j ≤ 100 ∧ (if (p3 &&& 768) = 0 then (100 : Int32) else 12) = nI j := by
      by_cases z : (p3 &&& 768) = 0
      · exact ⟨100, by omega, by omega, by rw [if_pos z]; rfl⟩
      · exact ⟨12, by omega, by omega, by rw [if_neg z]; rfl⟩
    refine lowK j3 j1 (by omega) fun k hk => ?_
    rw [nm_d, show (1 : Int32) + nI k = nI (1 + k) from nI_add 1 k]
    exact set_5 hfu h ht hu (by omega) (by omega)
end Set3L
