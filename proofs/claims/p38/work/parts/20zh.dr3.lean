/-! ===== drafts: conditions, links, the shape ===== -/
section Dr3L
variable {fu t u t1 u1 k0 s i j a b c d k nS nL nC nO : Nat} {M m N n M1 M0 m0 : Mem} {w v e p1 p2 p3 p4 : Int32}
theorem dr_wh (h : INV M m t u) (hDG0 : DG m nS nL nC nO) (ht : t < 2 ^ 29) (hu : u < 2 ^ 29) (hi : i < nS) (hs : s < 6) (es : m 19 i = nI s) (hc : c < cs s) (hk : k ≤ 4) (hy : -999 ≤ v ∧ v ≤ 999) (hcd : ¬ cdv (nI k) v = 0) : RES (bm (f_L_where fu (nI i) (nI (cs s)) 9 0 M) (fun r_84 M_85 => (if r_84 = (-7100) then bm (f_L_where fu (nI i) (nI c) 5 0 M_85) (fun r_88 M_89 => (if r_88 = (-7200) then bm (f_L_where fu (nI i) (nI c) (-1) 0 M_89) (fun r_92 M_93 => (if r_92 = (-7200) then bm (f_L_where fu (nI i) (nI c) 3 1 M_93) (fun r_96 M_97 => (if r_96 = (-7200) then bm (f_L_where fu (nI i) (nI c) 0 1000 M_97) (fun r_100 M_101 => (if r_100 = (-7200) then bm (f_L_where fu (nI i) (nI c) 4 (-1) M_101) (fun r_104 M_105 => (if r_104 = (-7200) then (if (M_105 146 2) = 4 then bm (f_L_where fu (nI i) (nI c) (nI k) v M_105) (fun r_122 M_123 => (if r_122 = (-7300) then some ((1 : Int32), M_123) else some ((0 : Int32), M_123))) else grd (inb (21 + (4 * (M_105 146 2))) 43) (nm (up M_105 146 (21 + (4 * (M_105 146 2))).toNatClampNeg (nI i)) (fun M_109 => grd (inb (22 + (4 * (M_109 146 2))) 43) (nm (up M_109 146 (22 + (4 * (M_109 146 2))).toNatClampNeg (nI c)) (fun M_111 => grd (inb (23 + (4 * (M_111 146 2))) 43) (nm (up M_111 146 (23 + (4 * (M_111 146 2))).toNatClampNeg (nI k)) (fun M_113 => grd (inb (24 + (4 * (M_113 146 2))) 43) (nm (up M_113 146 (24 + (4 * (M_113 146 2))).toNatClampNeg v) (fun M_115 => nm (up M_115 146 2 ((M_115 146 2) + 1)) (fun M_116 => bm (f_L_where fu (nI i) (nI c) (nI k) v M_116) (fun r_118 M_119 => (if r_118 = (M_119 146 2) then some ((1 : Int32), M_119) else some ((0 : Int32), M_119))))))))))))) else some ((0 : Int32), M_105))) else some ((0 : Int32), M_101))) else some ((0 : Int32), M_97))) else some ((0 : Int32), M_93))) else some ((0 : Int32), M_89))) else some ((0 : Int32), M_85)))) t u := by
  have h4 := cs_le (s := s)
  have hG : ∀ M' m', SM M' m' M m t u → DG m' nS nL nC nO ∧ m' 19 i = nI s := fun M' m' h' => ⟨hDG0.cg ⟨fun a _ _ => h'.2.2.1 a (by omega), fun j _ _ => h'.2.2.2 j (by omega)⟩, by rw [h'.2.2.1 19 (by omega)]; exact es⟩
  have hbad : ∀ (x y : Int32), cdv x y = 0 → ∀ M' m', SM M' m' M m t u → ∃ M'' m'', f_L_where fu (nI i) (nI c) x y M' = some (-7200, M'') ∧ SM M'' m'' M m t u := fun x y hxy M' m' h' =>
    where_e (k0 := 2) h' ht hu (Or.inr (Or.inl rfl)) (sc_k (hG _ _ h').1 hi hs (hG _ _ h').2 hc) (by rw [if_neg (by decide), if_pos hxy]; rfl)
  refine ech (where_e (k0 := 1) h.sm ht hu (Or.inl rfl) (sc_c hDG0 hi hs es (Or.inr (Int32.le_refl _))) (by rw [if_pos rfl]; rfl)) fun M2 m2 h2 => ?_
  refine ech (hbad _ _ (by decide) _ _ h2) fun M2 m2 h2 => ?_
  refine ech (hbad _ _ (by decide) _ _ h2) fun M2 m2 h2 => ?_
  refine ech (hbad _ _ (by decide) _ _ h2) fun M2 m2 h2 => ?_
  refine ech (hbad _ _ (by decide) _ _ h2) fun M2 m2 h2 => ?_
  refine ech (hbad _ _ (by decide) _ _ h2) fun M3 m3 h3 => ?_
  have hL := h.1.sm h3
  obtain ⟨nS', nL', nC', nO', hD, hDG⟩ := hL.dl
  obtain ⟨hDG3, es3⟩ := hG _ _ h3
  obtain rfl : nS' = nS := (nI_eq (by have := hDG.1.2; omega) (by have := hDG3.1.2; omega)).mp (hDG.1.1.symm.trans hDG3.1.1)
  have hOO := hD.1.2.2.1
  have hO3 := hDG.2.2.1.2
  have q3 : (nI nC' = 4) = (nC' = 4) := by rw [show (4 : Int32) = nI 4 from rfl, nI_eq (by omega) (by omega)]
  rw [hOO]
  refine RES.if (fun hn => ?_) (fun hn => ?_) <;> rw [q3] at hn
  · exact ech (where_e (k0 := 3) h3 ht hu (Or.inr (Or.inr rfl)) (sc_k hDG hi hs es3 hc) (by rw [if_neg (by decide), if_neg hcd, hDG.2.2.1.1, if_pos (q3.mpr hn)]; rfl)) fun M4 m4 h4 => .ok (h4.inv h.1)
  · obtain ⟨e1, e2⟩ := p1m1 (q := nC')
    have e0 : (4 : Int32) * nI nC' = nI (4 * nC') := pk_mul 4 _
    have e6 : (21 : Int32) + 4 * nI nC' = nI (21 + 4 * nC') := by rw [e0]; exact nI_add 21 _
    have e7 : (22 : Int32) + 4 * nI nC' = nI (22 + 4 * nC') := by rw [e0]; exact nI_add 22 _
    have e8 : (23 : Int32) + 4 * nI nC' = nI (23 + 4 * nC') := by rw [e0]; exact nI_add 23 _
    have e9 : (24 : Int32) + 4 * nI nC' = nI (24 + 4 * nC') := by rw [e0]; exact nI_add 24 _
    simp (disch := omega) only [e6, e7, e8, e9, inb_nI, grd_true, nI_clamp, nm_d, up_m, hOO, e1]
    have hDn := hD.wh (p := nI i) (q := nI c) (x := nI k) (y := v) (by omega) hDG.1.2 hDG.2.1.2 ⟨k, hk, rfl⟩ hy
    have hR2 : REL (up (up (up (up (up M3 146 (21 + 4 * nC') (nI i)) 146 (22 + 4 * nC') (nI c)) 146 (23 + 4 * nC') (nI k)) 146 (24 + 4 * nC') v) 146 2 (nI (nC' + 1))) m3 t u := h3.1.cgC (fun x hx => by rw [up_n (by omega), up_n (by omega), up_n (by omega), up_n (by omega), up_n (by omega)])
    obtain ⟨M6, a1, a2, a3⟩ := dCall (cs' := [1, 2, 3]) hL (fun a z1 z2 z3 => by rw [up_n z3, up_n z3, up_n z3, up_n z3, up_n z3]) (where_call (fu := fu) (p1 := nI i) (p2 := nI c) (p3 := nI k) (p4 := v) hR2) (xwhere hDG (sc_k hDG hi hs es3 hc) hcd (by omega)) (by simp (disch := omega) only [up_m, up_n, up_s]; rfl) (by decide) (by decide) (fun a z1 z2 => by rw [up_n z1, up_n (by omega), up_n (by omega), up_n (by omega), up_n (by omega), up_n z1]) (f0up (by omega) (by omega) (fun a j z => by subst z; rw [up_n (by omega), up_n (by omega), up_n (by omega), up_n (by omega)])) hDn (by simp (disch := omega) only [up_m, up_n]; exact hDG.1.1) (by simp (disch := omega) only [up_m, up_n]; exact hDG.2.1.1) up_s (by simp (disch := omega) only [up_m, up_n]; exact hDG.2.2.2.1.1) (by have := hDG.1.2; omega) (by have := hDG.2.1.2; omega) (by omega) (by have := hDG.2.2.2.1.2; omega) ht hu
    have a1' : f_L_where fu (nI i) (nI c) (nI k) v (up (up (up (up (up M3 146 (21 + 4 * nC') (nI i)) 146 (22 + 4 * nC') (nI c)) 146 (23 + 4 * nC') (nI k)) 146 (24 + 4 * nC') v) 146 2 (nI (nC' + 1))) = some (nI (nC' + 1), M6) := a1
    rw [a1', bm_some, if_pos (by rw [a3 146 (by omega), up_s])]
    exact .ok a2
theorem dr_lk {s' : Nat} (h : INV M m t u) (hDG0 : DG m nS nL nC nO) (ht : t < 2 ^ 29) (hu : u < 2 ^ 29) (hi : i < nS) (hs : s < 6) (es : m 19 i = nI s) (hc : c < cs s) (hj : j < nS) (hs' : s' < 6) (ej : m 19 j = nI s') (hd : d < cs s') : RES (bm (f_L_link fu (nI i) (nI (cs s)) (nI j) (nI d) M) (fun r_136 M_137 => (if r_136 = (-7100) then bm (f_L_link fu (nI i) (nI c) (nI j) (-1) M_137) (fun r_140 M_141 => (if r_140 = (-7100) then bm (f_L_link fu (nI i) (nI c) (nI i) (nI c) M_141) (fun r_144 M_145 => (if r_144 = (-7200) then (if nI i < nI j then (if (M_145 146 1) = 3 then bm (f_L_link fu (nI i) (nI c) (nI j) (nI d) M_145) (fun r_163 M_164 => (if r_163 = (-7300) then some ((1 : Int32), M_164) else some ((0 : Int32), M_164))) else grd (inb (9 + (4 * (M_145 146 1))) 43) (nm (up M_145 146 (9 + (4 * (M_145 146 1))).toNatClampNeg (nI i)) (fun M_150 => grd (inb (10 + (4 * (M_150 146 1))) 43) (nm (up M_150 146 (10 + (4 * (M_150 146 1))).toNatClampNeg (nI c)) (fun M_152 => grd (inb (11 + (4 * (M_152 146 1))) 43) (nm (up M_152 146 (11 + (4 * (M_152 146 1))).toNatClampNeg (nI j)) (fun M_154 => grd (inb (12 + (4 * (M_154 146 1))) 43) (nm (up M_154 146 (12 + (4 * (M_154 146 1))).toNatClampNeg (nI d)) (fun M_156 => nm (up M_156 146 1 ((M_156 146 1) + 1)) (fun M_157 => bm (f_L_link fu (nI i) (nI c) (nI j) (nI d) M_157) (fun r_159 M_160 => (if r_159 = (M_160 146 1) then some ((1 : Int32), M_160) else some ((0 : Int32), M_160))))))))))))) else bm (f_L_link fu (nI i) (nI c) (nI j) (nI d) M_145) (fun r_167 M_168 => (if r_167 = (-7200) then some ((1 : Int32), M_168) else some ((0 : Int32), M_168)))) else some ((0 : Int32), M_145))) else some ((0 : Int32), M_141))) else some ((0 : Int32), M_137)))) t u := by
  have h4 := cs_le (s := s)
  have h4' := cs_le (s := s')
  have hG : ∀ M' m', SM M' m' M m t u → DG m' nS nL nC nO ∧ m' 19 i = nI s ∧ m' 19 j = nI s' := fun M' m' h' => ⟨hDG0.cg ⟨fun a _ _ => h'.2.2.1 a (by omega), fun j _ _ => h'.2.2.2 j (by omega)⟩, by rw [h'.2.2.1 19 (by omega)]; exact ⟨es, ej⟩⟩
  refine ech (link_e (k0 := 1) h.sm ht hu (Or.inl rfl) (xlk1 (sc_c hDG0 hi hs es (Or.inr (Int32.le_refl _))))) fun M2 m2 h2 => ?_
  refine ech (link_e (k0 := 1) h2 ht hu (Or.inl rfl) (xlk1' (sc_k (hG _ _ h2).1 hi hs (hG _ _ h2).2.1 hc) (sc_c (hG _ _ h2).1 hj hs' (hG _ _ h2).2.2 (Or.inl (by decide))))) fun M2 m2 h2 => ?_
  refine ech (link_e (k0 := 2) h2 ht hu (Or.inr (Or.inl rfl)) (xlk2 (sc_k (hG _ _ h2).1 hi hs (hG _ _ h2).2.1 hc) (sc_k (hG _ _ h2).1 hi hs (hG _ _ h2).2.1 hc) (fun z => absurd z (Int32.lt_irrefl)))) fun M3 m3 h3 => ?_
  have hL := h.1.sm h3
  obtain ⟨nS', nL', nC', nO', hD, hDG⟩ := hL.dl
  obtain ⟨hDG3, es3, ej3⟩ := hG _ _ h3
  obtain rfl : nS' = nS := (nI_eq (by have := hDG.1.2; omega) (by have := hDG3.1.2; omega)).mp (hDG.1.1.symm.trans hDG3.1.1)
  have c1 := sc_k (fu := fu) hDG hi hs es3 hc
  have c2 := sc_k (fu := fu) hDG hj hs' ej3 hd
  refine RES.if (fun hlt => ?_) (fun hlt => ?_)
  rotate_left
  · exact ech (link_e (k0 := 2) h3 ht hu (Or.inr (Or.inl rfl)) (xlk2 c1 c2 hlt)) fun M4 m4 h4 => .ok (h4.inv h.1)
  have hOO := hD.1.2.1
  have hO3 := hDG.2.1.2
  have q3 : (nI nL' = 3) = (nL' = 3) := by rw [show (3 : Int32) = nI 3 from rfl, nI_eq (by omega) (by omega)]
  rw [hOO]
  refine RES.if (fun hn => ?_) (fun hn => ?_) <;> rw [q3] at hn
  · exact ech (link_e (k0 := 3) h3 ht hu (Or.inr (Or.inr rfl)) (xlk3 c1 c2 hlt (by rw [hDG.2.1.1, hn]; rfl))) fun M4 m4 h4 => .ok (h4.inv h.1)
  · obtain ⟨e1, e2⟩ := p1m1 (q := nL')
    have e0 : (4 : Int32) * nI nL' = nI (4 * nL') := pk_mul 4 _
    have e6 : (9 : Int32) + 4 * nI nL' = nI (9 + 4 * nL') := by rw [e0]; exact nI_add 9 _
    have e7 : (10 : Int32) + 4 * nI nL' = nI (10 + 4 * nL') := by rw [e0]; exact nI_add 10 _
    have e8 : (11 : Int32) + 4 * nI nL' = nI (11 + 4 * nL') := by rw [e0]; exact nI_add 11 _
    have e9 : (12 : Int32) + 4 * nI nL' = nI (12 + 4 * nL') := by rw [e0]; exact nI_add 12 _
    simp (disch := omega) only [e6, e7, e8, e9, inb_nI, grd_true, nI_clamp, nm_d, up_m, hOO, e1]
    have hDn := hD.lk (p := nI i) (q := nI c) (x := nI j) (y := nI d) (by omega) hDG.1.2
    have hR2 : REL (up (up (up (up (up M3 146 (9 + 4 * nL') (nI i)) 146 (10 + 4 * nL') (nI c)) 146 (11 + 4 * nL') (nI j)) 146 (12 + 4 * nL') (nI d)) 146 1 (nI (nL' + 1))) m3 t u := h3.1.cgC (fun x hx => by rw [up_n (by omega), up_n (by omega), up_n (by omega), up_n (by omega), up_n (by omega)])
    obtain ⟨M6, a1, a2, a3⟩ := dCall (cs' := [1, 2, 3]) hL (fun a z1 z2 z3 => by rw [up_n z3, up_n z3, up_n z3, up_n z3, up_n z3]) (link_call (fu := fu) (p1 := nI i) (p2 := nI c) (p3 := nI j) (p4 := nI d) hR2) (xlink hDG c1 c2 hlt (by omega)) (by simp (disch := omega) only [up_m, up_n, up_s]; rfl) (by decide) (by decide) (fun a z1 z2 => by rw [up_n z1, up_n (by omega), up_n (by omega), up_n (by omega), up_n (by omega), up_n z1]) (f0up (by omega) (by omega) (fun a j z => by subst z; rw [up_n (by omega), up_n (by omega), up_n (by omega), up_n (by omega)])) hDn (by simp (disch := omega) only [up_m, up_n]; exact hDG.1.1) up_s (by simp (disch := omega) only [up_m, up_n]; exact hDG.2.2.1.1) (by simp (disch := omega) only [up_m, up_n]; exact hDG.2.2.2.1.1) (by have := hDG.1.2; omega) (by omega) (by have := hDG.2.2.1.2; omega) (by have := hDG.2.2.2.1.2; omega) ht hu
    have a1' : f_L_link fu (nI i) (nI c) (nI j) (nI d) (up (up (up (up (up M3 146 (9 + 4 * nL') (nI i)) 146 (10 + 4 * nL') (nI c)) 146 (11 + 4 * nL') (nI j)) 146 (12 + 4 * nL') (nI d)) 146 1 (nI (nL' + 1))) = some (nI (nL' + 1), M6) := a1
    rw [a1', bm_some, if_pos (by rw [a3 146 (by omega), up_s])]
    exact .ok a2
theorem xshape (hk1 : 1 ≤ k) (hk : k ≤ 40) (hb : isb v = true) : f_X11_shape fu (nI k) v m = some (up (up (up m 0 0 0) 0 37 (nI k)) 0 38 v) := by
  have h2 := inN (a := 1) (b := k) (c := 40) hk1 hk (by omega)
  change ¬ f_X11_in (nI k) 1 40 = 0 at h2
  simp only [f_X11_shape, nm_d, h2, if_false, up_s, if_true, hb, grd_true]
theorem shape_k (hR : REL M1 m t u) (hk1 : 1 ≤ k) (hk : k ≤ 20) (hb : isb v = true) : ∃ N, f_L_shape fu (nI k) v M1 = some (0, mg M1 N) ∧ REL (mg M1 N) (up (up (up m 0 0 0) 0 37 (nI k)) 0 38 v) t u := by
  obtain ⟨q, N, n, a1, a2, a3, a4⟩ := shape_call (fu := fu) (p1 := nI k) (p2 := v) hR hb
  rw [xshape hk1 (by omega) hb] at a2
  cases a2
  rcases a3 with ⟨rfl, a3⟩ | ⟨rfl, a3⟩
  · exact ⟨N, by simp only [f_L_shape, a1, wr], a4.cgC (fun a ha => mg_c ha)⟩
  · rw [up_m (by omega), up_m (by omega), up_s] at a3; cases a3
theorem dr_shp (h : INV M m t u) (hk1 : 1 ≤ k) (hk : k ≤ 20) : RES (nm (up M 146 4 (nI k)) (fun M_34 => nm ((if (p2 &&& 96) = 0 then 1 else 0) : Int32) (fun v_36 => nm (up M_34 146 5 v_36) (fun M_37 => bm (f_L_shape fu 0 1 M_37) (fun r_39 M_40 => (if r_39 = (-7200) then bm (f_L_shape fu 41 1 M_40) (fun r_43 M_44 => (if r_43 = (-7200) then nm ((if (M_44 146 5) = 1 then 1 else 0) : Int32) (fun v_47 => bm (f_L_shape fu (M_44 146 4) v_47 M_44) (fun r_49 M_50 => (if r_49 = 0 then some ((1 : Int32), M_50) else some ((0 : Int32), M_50)))) else some ((0 : Int32), M_44))) else some ((0 : Int32), M_40))))))) t u := by
  obtain ⟨v, hv, hv'⟩ : ∃ v : Int32, (v = 0 ∨ v = 1) ∧ (if (p2 &&& 96) = 0 then (1 : Int32) else 0) = v := ⟨_, by split <;> simp, rfl⟩
  have hb : isb v = true := by rcases hv with rfl | rfl <;> rfl
  rw [nm_d, nm_d, hv', nm_d]
  have hS1 : SM (up (up M 146 4 (nI k)) 146 5 v) m (up (up M 146 4 (nI k)) 146 5 v) m t u := ⟨h.2.cgC (fun x hx => by rw [up_n (by omega), up_n (by omega)]), fun _ _ => rfl, .rfl⟩
  refine ech (shape_e hS1 rfl (by decide)) fun M2 m2 h2 => ?_
  refine ech (shape_e h2 rfl (by decide)) fun M3 m3 h3 => ?_
  have z4 : M3 146 4 = nI k := by rw [h3.2.1 146 (by omega), up_m (by omega), up_s]
  have z5 : M3 146 5 = v := by rw [h3.2.1 146 (by omega), up_s]
  have z6 : (if v = 1 then (1 : Int32) else 0) = v := by rcases hv with rfl | rfl <;> rfl
  obtain ⟨N, a1, a2⟩ := shape_k (fu := fu) h3.1 hk1 hk hb
  rw [nm_d, z4, z5, z6, a1, bm_some, if_pos rfl]
  obtain ⟨nS, nL, nC, nO, hD, hDG⟩ := h.1.dl
  have hD3 : DL (up (up M 146 4 (nI k)) 146 5 v) (up (up (up m3 0 0 0) 0 37 (nI k)) 0 38 v) nS nL nC nO := by
    have hDx : DL M m3 nS nL nC nO := hD.cg rfl (fun a z1 z2 => h3.2.2.1 a (by omega)) (h3.2.2.2 37 (by omega)) (h3.2.2.2 38 (by omega))
    exact hDx.shp hDG.1.2 hDG.2.1.2 hDG.2.2.1.2 hk1 hk
  obtain ⟨_, nS', nL', nC', nO', _, _, hDG', _⟩ := id a2
  have e22 : ∀ j, j ≠ 0 → j ≠ 37 → j ≠ 38 → up (up (up m3 0 0 0) 0 37 (nI k)) 0 38 v 0 j = m 0 j := fun j z1 z2 z3 => by rw [up_m z3, up_m z2, up_m z1, h3.2.2.2 j z1]
  have hDG2 := hDG'.at0 (a := nS) (b := nL) (c := nC) (d := nO) (by rw [e22 22 (by omega) (by omega) (by omega)]; exact hDG.1.1) (by rw [e22 24 (by omega) (by omega) (by omega)]; exact hDG.2.1.1) (by rw [e22 29 (by omega) (by omega) (by omega)]; exact hDG.2.2.1.1) (by rw [e22 34 (by omega) (by omega) (by omega)]; exact hDG.2.2.2.1.1) (by have := hDG.1.2; omega) (by have := hDG.2.1.2; omega) (by have := hDG.2.2.1.2; omega) (by have := hDG.2.2.2.1.2; omega)
  refine .ok (n := up (up (up m3 0 0 0) 0 37 (nI k)) 0 38 v) ⟨h.1.dr (fun a z1 z2 z3 => by rw [mg_l z1, h3.2.1 a z1, up_n z3, up_n z3]) (fun a z1 z2 => by rw [up_n z1, up_n z1, up_n z1, h3.2.2.1 a z1]) (fun j z1 z2 => e22 j z1 (by omega) (by omega)) (hD3.cg (by rw [mg_l (by omega), h3.2.1 146 (by omega)]) (fun _ _ _ => rfl) rfl rfl) hDG2 a2.e3c, a2⟩
theorem dr966 {k985 : Mem → Option (Int32 × Mem)} : ∀ d x n (N : Mem), x + d = 43 → d < n → ∃ N', f_L_drafts_L966 fu k985 n (nI x) N = k985 N' ∧ (∀ a, a ≠ 146 → N' a = N a) ∧ ∀ j, N' 146 j = if x ≤ j ∧ j < 43 then 0 else N 146 j := by
  intro d
  induction d with
  | zero =>
    intro x n N h1 h2
    obtain ⟨n, rfl⟩ := fu1 h2
    obtain rfl : x = 43 := by omega
    refine ⟨N, ?_, fun _ _ => rfl, fun j => by rw [if_neg (by omega)]⟩
    simp only [f_L_drafts_L966, show (43 : Int32) = nI 43 from rfl, Int32.le_refl, if_true]
  | succ d ih =>
    intro x n N h1 h2
    obtain ⟨n, rfl⟩ := fu1 h2
    have h5 : ¬ (43 : Int32) ≤ nI x := by rw [show (43 : Int32) = nI 43 from rfl, nI_leI (by omega) (by omega)]; omega
    obtain ⟨N', g1, g2, g3⟩ := ih (x + 1) n (up N 146 x 0) (by omega) (by omega)
    refine ⟨N', ?_, fun a ha => by rw [g2 a ha, up_n ha], fun j => ?_⟩
    · rw [← g1]
      simp (disch := omega) only [f_L_drafts_L966, h5, if_false, inb_nI, grd_true, nI_clamp, nm_d, nI_1]
    · rw [g3]
      by_cases z : j = x
      · subst z; rw [if_neg (by omega), up_s, if_pos (by omega)]
      · rw [up_m z]
        by_cases z' : x ≤ j ∧ j < 43
        · rw [if_pos z', if_pos (by omega)]
        · rw [if_neg z', if_neg (by omega)]
theorem dr_clr (hfu : 5000 ≤ fu) (h : INV M m t u) : RES (nm (M 146 0) (fun x7_13 => jn (fun (M_15 : Mem) => nm (up M_15 146 4 20) (fun M_16 => bm (f_X10_clear fu M_16) (fun r_18 M_19 => nm (mg M_16 M_19) (fun M_20 => (if r_18 = x7_13 then bm (f_L_shape fu 20 0 M_20) (fun r_23 M_24 => (if r_23 = 0 then some ((1 : Int32), M_24) else some ((0 : Int32), M_24))) else some ((0 : Int32), M_20)))))) (fun k985_14 => f_L_drafts_L966 fu k985_14 fu 0 M))) t u := by
  rw [nm_d, jn_d]
  obtain ⟨nS, nL, nC, nO, hD, hDG⟩ := h.1.dl
  obtain ⟨N1, g1, g2, g3⟩ := dr966 (fu := fu) (k985 := fun (M_15 : Mem) => nm (up M_15 146 4 20) (fun M_16 => bm (f_X10_clear fu M_16) (fun r_18 M_19 => nm (mg M_16 M_19) (fun M_20 => (if r_18 = M 146 0 then bm (f_L_shape fu 20 0 M_20) (fun r_23 M_24 => (if r_23 = 0 then some ((1 : Int32), M_24) else some ((0 : Int32), M_24))) else some ((0 : Int32), M_20)))))) 43 0 fu M (by omega) (by omega)
  have g1' := g1
  rw [show nI 0 = (0 : Int32) from rfl] at g1'
  rw [g1', nm_d]
  have hR1 : REL (up N1 146 4 20) m t u := h.2.cgC (fun x hx => by rw [up_n (by omega), g2 x (by omega)])
  obtain ⟨v, N, n, a1, a2, a3, a4⟩ := clear_call (fu := fu) hR1
  have hx : f_X11_clear fu m = some (m 0 22, up (up (up (up (up (up (up m 0 0 0) 0 22 0) 0 24 0) 0 29 0) 0 34 0) 0 37 40) 0 38 0) := by
    simp (disch := omega) only [f_X11_clear, nm_d, up_m]
  rw [hx] at a2
  cases a2
  have hR2 : REL (mg (up N1 146 4 20) N) _ t u := a4.cgC (fun a ha => mg_c ha)
  obtain ⟨N2, b1, b2⟩ := shape_k (fu := fu) (k := 20) (v := 0) hR2 (by omega) (by omega) rfl
  have b1' : f_L_shape fu 20 0 (mg (up N1 146 4 20) N) = some (0, mg (mg (up N1 146 4 20) N) N2) := b1
  rw [a1, bm_some, nm_d, if_pos (by rw [hD.1.1, hDG.1.1]), b1', bm_some, if_pos rfl]
  have o1 : ∀ a, 142 ≤ a → mg (mg (up N1 146 4 20) N) N2 a = up N1 146 4 20 a := fun a ha => by rw [mg_l ha, mg_l ha]
  obtain ⟨_, nS', nL', nC', nO', _, _, hDG', _⟩ := id b2
  have hDG2 := hDG'.at0 (a := 0) (b := 0) (c := 0) (d := 0) (by simp (disch := omega) only [up_m, up_s]; rfl) (by simp (disch := omega) only [up_m, up_s]; rfl) (by simp (disch := omega) only [up_m, up_s]; rfl) (by simp (disch := omega) only [up_m, up_s]; rfl) (by omega) (by omega) (by omega) (by omega)
  have e0 : ∀ j, j < 43 → j ≠ 4 → up N1 146 4 20 146 j = 0 := fun j h1 h2 => by rw [up_m h2, g3, if_pos (by omega)]
  refine .ok ⟨h.1.dr (nS := 0) (nL := 0) (nC := 0) (nO := 0) (fun a z1 z2 z3 => by rw [o1 a z1, up_n z3, g2 a z3]) (fun a z1 z2 => by simp (disch := omega) only [up_n]) (fun j z1 z2 => by simp (disch := omega) only [up_m]) ⟨⟨?_, ?_, ?_, ?_, ?_, ?_, 20, by omega, by omega, ?_⟩, fun i hi => by omega, fun i hi => by omega, fun i hi => by omega, fun i hi => by omega⟩ hDG2 b2.e3c, b2⟩
  · rw [o1 146 (by omega), e0 0 (by omega) (by omega)]; rfl
  · rw [o1 146 (by omega), e0 1 (by omega) (by omega)]; rfl
  · rw [o1 146 (by omega), e0 2 (by omega) (by omega)]; rfl
  · rw [o1 146 (by omega), e0 3 (by omega) (by omega)]; rfl
  · rw [o1 146 (by omega), up_s, up_m (by omega), up_s]; rfl
  · rw [o1 146 (by omega), e0 5 (by omega) (by omega), up_s]
  · rw [up_m (by omega), up_s]
theorem cd9 : ∀ (k : Fin 3) (q : Fin 9), ¬ cdv (nI k.val) (nI q.val - 2) = 0 ∧ -999 ≤ nI q.val - 2 ∧ nI q.val - 2 ≤ 999 := by decide +kernel
theorem cd5 : ∀ (k : Fin 5), 3 ≤ k.val → ¬ cdv (nI k.val) 0 = 0 := by decide +kernel
theorem drafts_ok (hfu : 5000 ≤ fu) (h : INV M m t u) (ht : t < 2 ^ 29) (hu : u < 2 ^ 29) : RES (f_L_drafts fu p1 p2 p3 M) t u := by
  obtain ⟨nS, nL, nC, nO, hD, hDG⟩ := h.1.dl
  have hS := hD.1.1
  have hS3 := hDG.1.2
  unfold f_L_drafts
  rw [hS]
  refine lowK (j := nS + 1) p1m1.1 (by omega) (by omega) fun i hi => RES.if (fun _ => RES.if (fun hz => ?_) (fun hz => ?_)) (fun _ => ?_)
  · obtain rfl : i = nS := (nI_eq (by omega) (by omega)).mp hz
    exact dr_none h hDG ht hu
  · have hii : i < nS := by
      have : i ≠ nS := fun z => hz (by rw [z])
      omega
    have e6 : (6 : Int32) + nI i = nI (6 + i) := nI_add 6 i
    obtain ⟨s, hs, es⟩ := hDG.src hii
    have es' : M 146 (6 + i) = nI s := by rw [hD.2.1 i hii]; exact es
    have h4 := cs_le (s := s)
    have h40 : 0 < cs s := by simp only [cs]; split <;> omega
    rw [e6, inb_nI (by omega) (by omega), grd_true, nI_clamp (by omega), es', lcol hs]
    refine lowK (j := cs s) rfl h40 (by omega) fun c hc => RES.if (fun _ => RES.if (fun _ => RES.if (fun _ => RES.if (fun _ => ?_) (fun _ => ?_)) (fun _ => ?_)) (fun _ => ?_)) (fun _ => ?_)
    · refine jnK (P := fun v => ∃ k, 1 ≤ k ∧ k ≤ 20 ∧ v = nI k) ?_ ?_
      · rintro _ ⟨k, k1, k2, rfl⟩
        exact dr_shp h k1 k2
      · intro q hq
        exact RES.if (fun _ => lowK (j := 20) rfl (by omega) (by omega) fun k hk => hq _ ⟨1 + k, by omega, by omega, nI_add 1 k⟩) (fun _ => hq _ ⟨20, by omega, by omega, rfl⟩)
    · rw [← hS]
      exact dr_clr hfu h
    · exact dr_out h hDG ht hu hii hs es hc
    · refine lowK (j := 5) rfl (by omega) (by omega) fun k hk => ?_
      refine jnK (P := fun v => (-999 ≤ v ∧ v ≤ 999) ∧ ¬ cdv (nI k) v = 0) ?_ ?_
      · rintro v ⟨h1, h2⟩
        exact dr_wh h hDG ht hu hii hs es hc (by omega) h1 h2
      · intro q hq
        have e2 : (nI k ≤ 2) = (k ≤ 2) := by rw [show (2 : Int32) = nI 2 from rfl, nI_leI (by omega) (by omega)]
        refine RES.if (fun hk2 => lowK (j := 9) rfl (by omega) (by omega) fun y hy => ?_) (fun hk2 => ?_) <;> rw [e2] at hk2
        · have := cd9 ⟨k, by omega⟩ ⟨y, hy⟩
          exact hq _ ⟨this.2, this.1⟩
        · exact hq _ ⟨⟨by decide, by decide⟩, cd5 ⟨k, hk⟩ (by show 3 ≤ k; omega)⟩
    · refine lowK (j := nS) rfl (by omega) (by omega) fun j hj => ?_
      have e6 : (6 : Int32) + nI j = nI (6 + j) := nI_add 6 j
      obtain ⟨s', hs', ej⟩ := hDG.src hj
      have ej' : M 146 (6 + j) = nI s' := by rw [hD.2.1 j hj]; exact ej
      have h4' := cs_le (s := s')
      have h40' : 0 < cs s' := by simp only [cs]; split <;> omega
      rw [e6, inb_nI (by omega) (by omega), grd_true, nI_clamp (by omega), ej', lcol hs']
      refine lowK (j := cs s') rfl h40' (by omega) fun d hd => ?_
      exact dr_lk h hDG ht hu hii hs es hc hj hs' ej hd
  · exact lowK (j := 6) rfl (by omega) (by omega) fun s hs => dr_seat h ht hu hs
end Dr3L
