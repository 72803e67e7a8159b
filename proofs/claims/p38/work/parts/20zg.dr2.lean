/-! ===== drafts: what is laid down ===== -/
section Dr2L
variable {fu t u t1 u1 k0 s i a b c d k nS nL nC nO : Nat} {M m N n M1 M0 m0 : Mem} {w v e p1 p2 p3 p4 : Int32}
theorem DL.seat (hD : DL M m nS nL nC nO) (hn : nS < 3) : DL (up (up M 146 (6 + nS) v) 146 0 (nI (nS + 1))) (up (up (up m 0 0 0) 19 nS v) 0 22 (nI (nS + 1))) (nS + 1) nL nC nO := by
  obtain ⟨⟨a1, a2, a3, a4, a5, a6, k, k1, k2, k3⟩, b, c, d, e⟩ := hD
  refine ⟨⟨up_s, ?_, ?_, ?_, ?_, ?_, k, k1, k2, ?_⟩, fun i hi => ?_, fun l hl => ?_, fun w hw => ?_, fun o ho => ?_⟩
  any_goals (simp (disch := omega) only [up_m, up_n]; assumption)
  · by_cases z : i = nS
    · subst z; simp (disch := omega) only [up_m, up_n, up_s]
    · simp (disch := omega) only [up_m, up_n]; exact b i (by omega)
  · simp (disch := omega) only [up_m, up_n]; exact c l hl
  · simp (disch := omega) only [up_m, up_n]; exact d w hw
  · simp (disch := omega) only [up_m, up_n]; exact e o ho
theorem DL.out (hD : DL M m nS nL nC nO) (hn : nO < 3) : DL (up (up (up M 146 (37 + 2 * nO) v) 146 (38 + 2 * nO) w) 146 3 (nI (nO + 1))) (up (up (up (up m 0 0 0) 28 nO v) 29 nO w) 0 34 (nI (nO + 1))) nS nL nC (nO + 1) ∨ 3 < nS ∨ 3 < nL ∨ 4 < nC := by
  by_cases hb : 3 < nS ∨ 3 < nL ∨ 4 < nC
  · exact Or.inr hb
  left
  obtain ⟨⟨a1, a2, a3, a4, a5, a6, k, k1, k2, k3⟩, b, c, d, e⟩ := hD
  refine ⟨⟨?_, ?_, ?_, up_s, ?_, ?_, k, k1, k2, ?_⟩, fun i hi => ?_, fun l hl => ?_, fun w hw => ?_, fun o ho => ?_⟩
  any_goals (simp (disch := omega) only [up_m, up_n]; assumption)
  · simp (disch := omega) only [up_m, up_n]; exact b i hi
  · simp (disch := omega) only [up_m, up_n]; exact c l hl
  · simp (disch := omega) only [up_m, up_n]; exact d w hw
  · by_cases z : o = nO
    · subst z; simp (disch := omega) only [up_m, up_n, up_s]; exact ⟨trivial, trivial⟩
    · simp (disch := omega) only [up_m, up_n]; exact e o (by omega)
theorem DL.wh {p q x y : Int32} (hD : DL M m nS nL nC nO) (hn : nC < 4) (h1 : nS ≤ 3) (h2 : nL ≤ 3) (hk : ∃ k, k ≤ 4 ∧ x = nI k) (hy : -999 ≤ y ∧ y ≤ 999) : DL (up (up (up (up (up M 146 (21 + 4 * nC) p) 146 (22 + 4 * nC) q) 146 (23 + 4 * nC) x) 146 (24 + 4 * nC) y) 146 2 (nI (nC + 1))) (up (up (up (up (up (up m 0 0 0) 24 nC p) 25 nC q) 26 nC x) 27 nC y) 0 29 (nI (nC + 1))) nS nL (nC + 1) nO := by
  obtain ⟨⟨a1, a2, a3, a4, a5, a6, k, k1, k2, k3⟩, b, c, d, e⟩ := hD
  refine ⟨⟨?_, ?_, up_s, ?_, ?_, ?_, k, k1, k2, ?_⟩, fun i hi => ?_, fun l hl => ?_, fun w hw => ?_, fun o ho => ?_⟩
  any_goals (simp (disch := omega) only [up_m, up_n]; assumption)
  · simp (disch := omega) only [up_m, up_n]; exact b i hi
  · simp (disch := omega) only [up_m, up_n]; exact c l hl
  · by_cases z : w = nC
    · subst z; simp (disch := omega) only [up_m, up_n, up_s]; exact ⟨trivial, trivial, trivial, trivial, hk, hy.1, hy.2⟩
    · simp (disch := omega) only [up_m, up_n]; exact d w (by omega)
  · simp (disch := omega) only [up_m, up_n]; exact e o ho
theorem DL.lk {p q x y : Int32} (hD : DL M m nS nL nC nO) (hn : nL < 3) (h1 : nS ≤ 3) : DL (up (up (up (up (up M 146 (9 + 4 * nL) p) 146 (10 + 4 * nL) q) 146 (11 + 4 * nL) x) 146 (12 + 4 * nL) y) 146 1 (nI (nL + 1))) (up (up (up (up (up (up m 0 0 0) 20 nL p) 21 nL q) 22 nL x) 23 nL y) 0 24 (nI (nL + 1))) nS (nL + 1) nC nO := by
  obtain ⟨⟨a1, a2, a3, a4, a5, a6, k, k1, k2, k3⟩, b, c, d, e⟩ := hD
  refine ⟨⟨?_, up_s, ?_, ?_, ?_, ?_, k, k1, k2, ?_⟩, fun i hi => ?_, fun l hl => ?_, fun w hw => ?_, fun o ho => ?_⟩
  any_goals (simp (disch := omega) only [up_m, up_n]; assumption)
  · simp (disch := omega) only [up_m, up_n]; exact b i hi
  · by_cases z : l = nL
    · subst z; simp (disch := omega) only [up_m, up_n, up_s]; exact ⟨trivial, trivial, trivial, trivial⟩
    · simp (disch := omega) only [up_m, up_n]; exact c l (by omega)
  · simp (disch := omega) only [up_m, up_n]; exact d w hw
  · simp (disch := omega) only [up_m, up_n]; exact e o ho
theorem DL.shp (hD : DL M m nS nL nC nO) (h1 : nS ≤ 3) (h2 : nL ≤ 3) (h3 : nC ≤ 4) (hk1 : 1 ≤ k) (hk2 : k ≤ 20) : DL (up (up M 146 4 (nI k)) 146 5 v) (up (up (up m 0 0 0) 0 37 (nI k)) 0 38 v) nS nL nC nO := by
  obtain ⟨⟨a1, a2, a3, a4, a5, a6, _⟩, b, c, d, e⟩ := hD
  refine ⟨⟨?_, ?_, ?_, ?_, ?_, ?_, k, hk1, hk2, ?_⟩, fun i hi => ?_, fun l hl => ?_, fun w hw => ?_, fun o ho => ?_⟩
  any_goals (simp (disch := omega) only [up_m, up_n, up_s]; assumption)
  any_goals (simp (disch := omega) only [up_m, up_n, up_s]; done)
  · simp (disch := omega) only [up_m, up_n]; exact b i hi
  · simp (disch := omega) only [up_m, up_n]; exact c l hl
  · simp (disch := omega) only [up_m, up_n]; exact d w hw
  · simp (disch := omega) only [up_m, up_n]; exact e o ho
/-! what the reference does -/
theorem xseat (hDG : DG m nS nL nC nO) (hs : s < 6) (hn : nS < 3) : f_X11_seat fu (nI s) m = some (nI nS, up (up (up m 0 0 0) 19 nS (nI s)) 0 22 (nI (nS + 1))) := by
  obtain ⟨e1, e2⟩ := p1m1 (q := nS)
  have q2 : ¬ nI nS = 3 := by rw [show (3 : Int32) = nI 3 from rfl, nI_eq (by omega) (by omega)]; omega
  simp (disch := omega) only [f_X11_seat, nm_d, isSr hs, if_false, hDG.1.1, q2, up_s, Int32.le_refl, if_true, up_m, up_n, inb_nI, grd_true, nI_clamp, e1, e2]
theorem xout (hDG : DG m nS nL nC nO) (hs : f_X11_isSeatColumn fu p1 p2 m = some 1) (hn : nO < 3) : f_X11_out fu p1 p2 m = some (nI (nO + 1), up (up (up (up m 0 0 0) 28 nO p1) 29 nO p2) 0 34 (nI (nO + 1))) := by
  obtain ⟨e1, e2⟩ := p1m1 (q := nO)
  have q2 : ¬ nI nO = 3 := by rw [show (3 : Int32) = nI 3 from rfl, nI_eq (by omega) (by omega)]; omega
  simp (disch := omega) only [f_X11_out, hs, bd_some, i10, nm_d, if_false, hDG.2.2.2.1.1, q2, up_s, Int32.le_refl, if_true, up_m, up_n, inb_nI, grd_true, nI_clamp, e1]
theorem xwhere (hDG : DG m nS nL nC nO) (hs : f_X11_isSeatColumn fu p1 p2 m = some 1) (hc : ¬ cdv p3 p4 = 0) (hn : nC < 4) : f_X11_where fu p1 p2 p3 p4 m = some (nI (nC + 1), up (up (up (up (up (up m 0 0 0) 24 nC p1) 25 nC p2) 26 nC p3) 27 nC p4) 0 29 (nI (nC + 1))) := by
  obtain ⟨e1, e2⟩ := p1m1 (q := nC)
  have q2 : ¬ nI nC = 4 := by rw [show (4 : Int32) = nI 4 from rfl, nI_eq (by omega) (by omega)]; omega
  have hc' : ¬ (if (f_X11_in p3 0 4) = 0 then (0 : Int32) else (if 3 ≤ p3 then (if p4 = 0 then 1 else 0) else (if (f_X11_isNumber p4) = 0 then 0 else 1))) = 0 := hc
  simp (disch := omega) only [f_X11_where, hs, bd_some, i10, nm_d, hc', if_false, hDG.2.2.1.1, q2, up_s, Int32.le_refl, if_true, up_m, up_n, inb_nI, grd_true, nI_clamp, e1]
theorem xlink (hDG : DG m nS nL nC nO) (h1 : f_X11_isSeatColumn fu p1 p2 m = some 1) (h2 : f_X11_isSeatColumn fu p3 p4 m = some 1) (h3 : p1 < p3) (hn : nL < 3) : f_X11_link fu p1 p2 p3 p4 m = some (nI (nL + 1), up (up (up (up (up (up m 0 0 0) 20 nL p1) 21 nL p2) 22 nL p3) 23 nL p4) 0 24 (nI (nL + 1))) := by
  obtain ⟨e1, e2⟩ := p1m1 (q := nL)
  have q2 : ¬ nI nL = 3 := by rw [show (3 : Int32) = nI 3 from rfl, nI_eq (by omega) (by omega)]; omega
  simp (disch := omega) only [f_X11_link, h1, h2, h3, bd_some, i10, nm_d, jn_d, if_false, hDG.2.1.1, q2, up_s, Int32.le_refl, if_true, up_m, up_n, inb_nI, grd_true, nI_clamp, e1]
theorem f0up {x : Nat} {y : Int32} (hx : 22 ≤ x) (hx2 : x ≤ 38) (hE : ∀ a j, a = 0 → n a j = up m 0 0 0 a j) : ∀ j, j ≠ 0 → (j < 22 ∨ 38 < j) → up n 0 x y 0 j = m 0 j := fun j h1 h2 => by rw [up_m (by omega), hE 0 j rfl, up_m h1]
/-! the branches -/
theorem dr_seat (h : INV M m t u) (ht : t < 2 ^ 29) (hu : u < 2 ^ 29) (hs : s < 6) : RES (bm (f_L_seat fu 6 M) (fun r_189 M_190 => (if r_189 = (-7100) then bm (f_L_seat fu (-1) M_190) (fun r_193 M_194 => (if r_193 = (-7100) then (if (M_194 146 0) = 3 then bm (f_L_seat fu (nI s) M_194) (fun r_205 M_206 => (if r_205 = (-7300) then some ((1 : Int32), M_206) else some ((0 : Int32), M_206))) else grd (inb (6 + (M_194 146 0)) 43) (nm (up M_194 146 (6 + (M_194 146 0)).toNatClampNeg (nI s)) (fun M_198 => nm (up M_198 146 0 ((M_198 146 0) + 1)) (fun M_199 => bm (f_L_seat fu (nI s) M_199) (fun r_201 M_202 => (if r_201 = ((M_202 146 0) - 1) then some ((1 : Int32), M_202) else some ((0 : Int32), M_202))))))) else some ((0 : Int32), M_194))) else some ((0 : Int32), M_190)))) t u := by
  refine ech (seat_e (k0 := 1) h.sm ht hu (Or.inl rfl) (by rw [if_pos (by decide)]; rfl)) fun M2 m2 h2 => ?_
  refine ech (seat_e (k0 := 1) h2 ht hu (Or.inl rfl) (by rw [if_pos (by decide)]; rfl)) fun M3 m3 h3 => ?_
  have hL := h.1.sm h3
  obtain ⟨nS, nL, nC, nO, hD, hDG⟩ := hL.dl
  have hS3 := hDG.1.2
  have hSS := hD.1.1
  have q3 : (nI nS = 3) = (nS = 3) := by rw [show (3 : Int32) = nI 3 from rfl, nI_eq (by omega) (by omega)]
  rw [hSS]
  refine RES.if (fun hn => ?_) (fun hn => ?_) <;> rw [q3] at hn
  · exact ech (seat_e (k0 := 3) h3 ht hu (Or.inr rfl) (by rw [if_neg (isSr hs), hDG.1.1, if_pos (q3.mpr hn)]; rfl)) fun M4 m4 h4 => .ok (h4.inv h.1)
  · obtain ⟨e1, e2⟩ := p1m1 (q := nS)
    have e6 : (6 : Int32) + nI nS = nI (6 + nS) := nI_add 6 nS
    simp (disch := omega) only [e6, inb_nI, grd_true, nI_clamp, nm_d, up_m, hSS, e1]
    have hDn := hD.seat (v := nI s) (by omega)
    have hR2 : REL (up (up M3 146 (6 + nS) (nI s)) 146 0 (nI (nS + 1))) m3 t u := h3.1.cgC (fun x hx => by rw [up_n (by omega), up_n (by omega)])
    obtain ⟨M6, a1, a2, a3⟩ := dCall (cs' := [1, 3]) hL (fun a z1 z2 z3 => by rw [up_n z3, up_n z3]) (seat_call (fu := fu) (p1 := nI s) hR2) (xseat hDG hs (by omega)) (by rw [up_m (by omega), up_n (by omega), up_s]; rfl) (by decide) (by decide) (fun a z1 z2 => by rw [up_n z1, up_n (by omega), up_n z1]) (f0up (by omega) (by omega) (fun a j z => by subst z; rw [up_n (by omega)])) hDn up_s (by simp (disch := omega) only [up_m, up_n]; exact hDG.2.1.1) (by simp (disch := omega) only [up_m, up_n]; exact hDG.2.2.1.1) (by simp (disch := omega) only [up_m, up_n]; exact hDG.2.2.2.1.1) (by omega) (by have := hDG.2.1.2; omega) (by have := hDG.2.2.1.2; omega) (by have := hDG.2.2.2.1.2; omega) ht hu
    have a1' : f_L_seat fu (nI s) (up (up M3 146 (6 + nS) (nI s)) 146 0 (nI (nS + 1))) = some (nI nS, M6) := a1
    rw [a1', bm_some, if_pos (by rw [a3 146 (by omega), up_s, e2])]
    exact .ok a2
theorem dr_out (h : INV M m t u) (hDG0 : DG m nS nL nC nO) (ht : t < 2 ^ 29) (hu : u < 2 ^ 29) (hi : i < nS) (hs : s < 6) (es : m 19 i = nI s) (hc : c < cs s) : RES (bm (f_L_out fu (nI i) (nI (cs s)) M) (fun r_57 M_58 => (if r_57 = (-7100) then bm (f_L_out fu (nI i) (-1) M_58) (fun r_61 M_62 => (if r_61 = (-7100) then (if (M_62 146 3) = 3 then bm (f_L_out fu (nI i) (nI c) M_62) (fun r_75 M_76 => (if r_75 = (-7300) then some ((1 : Int32), M_76) else some ((0 : Int32), M_76))) else grd (inb (37 + (2 * (M_62 146 3))) 43) (nm (up M_62 146 (37 + (2 * (M_62 146 3))).toNatClampNeg (nI i)) (fun M_66 => grd (inb (38 + (2 * (M_66 146 3))) 43) (nm (up M_66 146 (38 + (2 * (M_66 146 3))).toNatClampNeg (nI c)) (fun M_68 => nm (up M_68 146 3 ((M_68 146 3) + 1)) (fun M_69 => bm (f_L_out fu (nI i) (nI c) M_69) (fun r_71 M_72 => (if r_71 = (M_72 146 3) then some ((1 : Int32), M_72) else some ((0 : Int32), M_72))))))))) else some ((0 : Int32), M_62))) else some ((0 : Int32), M_58)))) t u := by
  have h4 := cs_le (s := s)
  refine ech (out_e (k0 := 1) h.sm ht hu (Or.inl rfl) (sc_c hDG0 hi hs es (Or.inr (Int32.le_refl _))) (by rw [if_pos rfl]; rfl)) fun M2 m2 h2 => ?_
  have es2 : m2 19 i = nI s := by rw [h2.2.2.1 19 (by omega)]; exact es
  have hDG2 : DG m2 nS nL nC nO := hDG0.cg ⟨fun a _ _ => h2.2.2.1 a (by omega), fun j _ _ => h2.2.2.2 j (by omega)⟩
  refine ech (out_e (k0 := 1) h2 ht hu (Or.inl rfl) (sc_c hDG2 hi hs es2 (Or.inl (by decide))) (by rw [if_pos rfl]; rfl)) fun M3 m3 h3 => ?_
  have es3 : m3 19 i = nI s := by rw [h3.2.2.1 19 (by omega)]; exact es
  have hL := h.1.sm h3
  obtain ⟨nS', nL', nC', nO', hD, hDG⟩ := hL.dl
  have hDG3 : DG m3 nS nL nC nO := hDG0.cg ⟨fun a _ _ => h3.2.2.1 a (by omega), fun j _ _ => h3.2.2.2 j (by omega)⟩
  have hii : i < nS' := by
    have : nS' = nS := (nI_eq (by have := hDG.1.2; omega) (by have := hDG3.1.2; omega)).mp (hDG.1.1.symm.trans hDG3.1.1)
    omega
  have hOO := hD.1.2.2.2.1
  have hO3 := hDG.2.2.2.1.2
  have q3 : (nI nO' = 3) = (nO' = 3) := by rw [show (3 : Int32) = nI 3 from rfl, nI_eq (by omega) (by omega)]
  rw [hOO]
  refine RES.if (fun hn => ?_) (fun hn => ?_) <;> rw [q3] at hn
  · exact ech (out_e (k0 := 3) h3 ht hu (Or.inr rfl) (sc_k hDG hii hs es3 hc) (by rw [if_neg (by decide), hDG.2.2.2.1.1, if_pos (q3.mpr hn)]; rfl)) fun M4 m4 h4 => .ok (h4.inv h.1)
  · obtain ⟨e1, e2⟩ := p1m1 (q := nO')
    have e6 : (37 : Int32) + 2 * nI nO' = nI (37 + 2 * nO') := by rw [show (2 : Int32) * nI nO' = nI (2 * nO') from pk_mul 2 _]; exact nI_add 37 _
    have e7 : (38 : Int32) + 2 * nI nO' = nI (38 + 2 * nO') := by rw [show (2 : Int32) * nI nO' = nI (2 * nO') from pk_mul 2 _]; exact nI_add 38 _
    simp (disch := omega) only [e6, e7, inb_nI, grd_true, nI_clamp, nm_d, up_m, hOO, e1]
    have hDn := (hD.out (v := nI i) (w := nI c) (by omega)).resolve_right (by have := hDG.1.2; have := hDG.2.1.2; have := hDG.2.2.1.2; omega)
    have hR2 : REL (up (up (up M3 146 (37 + 2 * nO') (nI i)) 146 (38 + 2 * nO') (nI c)) 146 3 (nI (nO' + 1))) m3 t u := h3.1.cgC (fun x hx => by rw [up_n (by omega), up_n (by omega), up_n (by omega)])
    obtain ⟨M6, a1, a2, a3⟩ := dCall (cs' := [1, 3]) hL (fun a z1 z2 z3 => by rw [up_n z3, up_n z3, up_n z3]) (out_call (fu := fu) (p1 := nI i) (p2 := nI c) hR2) (xout hDG (sc_k hDG hii hs es3 hc) (by omega)) (by simp (disch := omega) only [up_m, up_n, up_s]; rfl) (by decide) (by decide) (fun a z1 z2 => by rw [up_n z1, up_n (by omega), up_n (by omega), up_n z1]) (f0up (by omega) (by omega) (fun a j z => by subst z; rw [up_n (by omega), up_n (by omega)])) hDn (by simp (disch := omega) only [up_m, up_n]; exact hDG.1.1) (by simp (disch := omega) only [up_m, up_n]; exact hDG.2.1.1) (by simp (disch := omega) only [up_m, up_n]; exact hDG.2.2.1.1) up_s (by have := hDG.1.2; omega) (by have := hDG.2.1.2; omega) (by have := hDG.2.2.1.2; omega) (by omega) ht hu
    have a1' : f_L_out fu (nI i) (nI c) (up (up (up M3 146 (37 + 2 * nO') (nI i)) 146 (38 + 2 * nO') (nI c)) 146 3 (nI (nO' + 1))) = some (nI (nO' + 1), M6) := a1
    rw [a1', bm_some, if_pos (by rw [a3 146 (by omega), up_s])]
    exact .ok a2
theorem dr_none (h : INV M m t u) (hDG0 : DG m nS nL nC nO) (ht : t < 2 ^ 29) (hu : u < 2 ^ 29) : RES (bm (f_L_link fu (nI nS) 0 0 0 M) (fun r_171 M_172 => (if r_171 = (-7100) then bm (f_L_where fu (nI nS) 0 9 0 M_172) (fun r_175 M_176 => (if r_175 = (-7100) then bm (f_L_out fu (nI nS) 0 M_176) (fun r_179 M_180 => (if r_179 = (-7100) then bm (f_L_where fu (-1) 0 0 0 M_180) (fun r_183 M_184 => (if r_183 = (-7100) then some ((1 : Int32), M_184) else some ((0 : Int32), M_184))) else some ((0 : Int32), M_180))) else some ((0 : Int32), M_176))) else some ((0 : Int32), M_172)))) t u := by
  refine ech (link_e (k0 := 1) h.sm ht hu (Or.inl rfl) (xlk1 (sc_i hDG0 (Or.inr (Int32.le_refl _))))) fun M2 m2 h2 => ?_
  have hDG2 : DG m2 nS nL nC nO := hDG0.cg ⟨fun a _ _ => h2.2.2.1 a (by omega), fun j _ _ => h2.2.2.2 j (by omega)⟩
  refine ech (where_e (k0 := 1) h2 ht hu (Or.inl rfl) (sc_i hDG2 (Or.inr (Int32.le_refl _))) (by rw [if_pos rfl]; rfl)) fun M3 m3 h3 => ?_
  have hDG3 : DG m3 nS nL nC nO := hDG0.cg ⟨fun a _ _ => h3.2.2.1 a (by omega), fun j _ _ => h3.2.2.2 j (by omega)⟩
  refine ech (out_e (k0 := 1) h3 ht hu (Or.inl rfl) (sc_i hDG3 (Or.inr (Int32.le_refl _))) (by rw [if_pos rfl]; rfl)) fun M4 m4 h4 => ?_
  have hDG4 : DG m4 nS nL nC nO := hDG0.cg ⟨fun a _ _ => h4.2.2.1 a (by omega), fun j _ _ => h4.2.2.2 j (by omega)⟩
  exact ech (where_e (k0 := 1) h4 ht hu (Or.inl rfl) (sc_i hDG4 (Or.inl (by decide))) (by rw [if_pos rfl]; rfl)) fun M5 m5 h5 => .ok (h5.inv h.1)
end Dr2L
