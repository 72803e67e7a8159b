/-! ===== rows are taken out, cells are put: turns ===== -/
section ChgL
variable {fu t u t1 u1 k0 s i j p c k : Nat} {M m N n P M0 m0 : Mem} {RR RR' : Nat → List Row} {R : List Row} {r : Row} {v x y a b d e mk w p1 p2 p3 p4 p5 : Int32}
theorem xremove1 (h : f_X11_isSource p1 = 0) : f_X11_remove fu p1 p2 m = some (0, up m 0 0 (nI 1)) := by
  simp only [f_X11_remove, jn_d, nm_d, h, if_true, up_s, le10, if_false]
  rfl
theorem xremove2 (hs : s < 6) (h : f_X11_placeOf fu (nI s) p2 m = some v) (hv : v = -1) : f_X11_remove fu (nI s) p2 m = some (0, up m 0 0 (nI 1)) := by
  simp only [f_X11_remove, jn_d, nm_d, isSr hs, h, bd_some, hv, if_true, up_s, le10, if_false]
  rfl
theorem xremove0 (hs : s < 6) (h : f_X11_placeOf fu (nI s) p2 m = some v) (hv : ¬ v = -1) (ht : f_X11_takesOut fu (nI s) p2 (up m 0 0 0) = some n) : f_X11_remove fu (nI s) p2 m = some (n 1 s, n) := by
  simp (disch := omega) only [f_X11_remove, jn_d, nm_d, isSr hs, h, bd_some, hv, up_s, Int32.le_refl, if_true, if_false, ht, inb_nI, grd_true, nI_clamp]
theorem remove_e (hfu : 5000 ≤ fu) (h : SM M m M0 m0 t u) (ht : t < 2 ^ 29) (hu : u < 2 ^ 29) (hx : f_X11_remove fu p1 p2 m = some (0, up m 0 0 (nI 1))) : ∃ M' m', f_L_remove fu p1 p2 M = some (-7100, M') ∧ SM M' m' M0 m0 t u := by
  obtain ⟨M', a1, a2⟩ := eC (k0 := 1) (cs := [1]) h (remove_call (p1 := p1) (p2 := p2) hfu h.1 ht hu) hx .up0 (by rw [up_s]; rfl) (by decide) (by decide) (by decide) ht hu
  exact ⟨M', _, a1, a2⟩
theorem wr_8 (hfu : 5000 ≤ fu) (h : INV M m t u) (ht : t < 2 ^ 26) (hu : u < 62) (hs : s < 6) (hR : RLL M m RR) (hW : WR M m t u RR) : RES (if 0 ≤ oI (fst (RR s) v) then bd (f_L_lift fu (nI s) (oI (fst (RR s) v)) M) (fun M_14 => bd (f_L_written fu (nI s) M_14) (fun M_16 => bm (f_L_remove fu (nI s) v M_16) (fun r_18 M_19 => (if r_18 = (M_19 143 (nI s).toNatClampNeg) then some ((1 : Int32), M_19) else some ((0 : Int32), M_19))))) else bm (f_L_remove fu (nI s) v M) (fun r_22 M_23 => (if r_22 = (-7100) then bm (f_L_remove fu 6 0 M_23) (fun r_26 M_27 => (if r_26 = (-7100) then some ((1 : Int32), M_27) else some ((0 : Int32), M_27))) else some ((0 : Int32), M_23)))) t u := by
  have ht' : t < 2 ^ 29 := by omega
  have hu' : u < 2 ^ 29 := by omega
  obtain ⟨q1, q2, q3⟩ := hR s hs
  have h10 := q1.2.1
  have eo := oIpos (m := v) (R := RR s) (by omega)
  obtain ⟨ep, eo'⟩ := hW.place (v := v) hfu hs
  cases hp : fst (RR s) v with
  | none =>
    rw [hp] at eo ep eo'
    rw [if_neg (by rw [eo]; simp)]
    refine ech (remove_e hfu h.sm ht' hu' (xremove2 hs ep (by rw [eo']))) fun M2 m2 h2 => ?_
    exact ech (remove_e hfu h2 ht' hu' (xremove1 (by decide))) fun M4 m4 h4 => .ok (h4.inv h.1)
  | some p =>
    rw [hp] at eo ep eo'
    rw [if_pos (by rw [eo]; simp)]
    obtain ⟨r, hr, hmk⟩ := fst_lt hp
    have hpl := gl_lt hr
    have hL0 : LR M (up m 0 0 0) t u := h.1.cg (fun _ _ _ => rfl) .up0 h.1.e3c
    have hR0 : RLL M (up m 0 0 0) RR := hR.cg rfl rfl (up_n (by omega)) (up_n (by omega)) (up_n (by omega))
    obtain ⟨N, e1, hL1, hR1, f1⟩ := hL0.rem hfu hR0 hs hpl
    obtain ⟨N2, n2, e2, e3', hL2, f2, f3, _, _, f6, _⟩ := hL1.wrt hfu hs ht hu
    have hR2 := f6 _ hR1
    obtain ⟨c1, c2, _⟩ := hR2 s hs
    have etk : f_X11_takesOut fu (nI s) v (up m 0 0 0) = some n2 := by rw [mtakes_eq hfu (hR0 s hs).2.1 hs (hW.2.2.1 s hs).1.nd hp, e3']
    obtain ⟨M6, a1, a2, a3⟩ := rCall (k0 := 0) (cs := [1]) hL2 (remove_call (p1 := nI s) (p2 := v) hfu (h.2.cgC (N := N2) (fun a ha => by rw [f2 a (by omega) (by omega) (by omega) (by omega), f1 a (by omega) (by omega)])) ht' hu') (xremove0 hs ep (by rw [eo']; simp) etk) (by rw [f3, mdelM_n ⟨by omega, by omega, by omega⟩, up_s]; rfl) (by decide) (by decide) (by decide) ht' (by omega) hu'
    have a1' : f_L_remove fu (nI s) v N2 = some (n2 1 s, M6) := a1
    have e1' : f_L_lift fu (nI s) (oI (some p)) M = some N := e1
    rw [e1', bd_some, e2, bd_some, a1', bm_some, nI_clamp (by omega), a3 143 (by omega), c1.1, c2.1, if_pos rfl]
    exact ⟨M6, n2, t, u + 1, rfl, a2, by omega, by omega, by omega, by omega⟩
theorem xchange1 (h : f_X11_isSource p1 = 0) : f_X11_change fu p1 p2 p3 p4 m = some (0, up m 0 0 (nI 1)) := by
  simp only [f_X11_change, jn_d, nm_d, h, if_true, up_s, le10, if_false]
  rfl
theorem xchange2 (hs : s < 6) (h : f_X11_canChange fu (nI s) p2 p3 p4 m = some v) (hv : ¬ v ≤ 0) : f_X11_change fu (nI s) p2 p3 p4 m = some (0, up m 0 0 v) := by
  simp only [f_X11_change, jn_d, nm_d, isSr hs, h, bd_some, up_s, hv, if_false]
theorem xchange0 (hs : s < 6) (h : f_X11_canChange fu (nI s) p2 p3 p4 m = some 0) (hk : f_X11_kept fu (nI s) p3 p4 (up m 0 0 0) = some (x, P)) (hq : f_X11_puts fu (nI s) p2 p3 x P = some (w, n)) : f_X11_change fu (nI s) p2 p3 p4 m = some (w, n) := by
  simp only [f_X11_change, jn_d, nm_d, isSr hs, h, bd_some, up_s, Int32.le_refl, if_true, if_false, hk, bm_some, hq]
theorem change_e (hfu : 5000 ≤ fu) (h : SM M m M0 m0 t u) (ht : t < 2 ^ 29) (hu : u < 2 ^ 29) (hk : k0 = 1 ∨ k0 = 2) (hx : f_X11_change fu p1 p2 p3 p4 m = some (0, up m 0 0 (nI k0))) : ∃ M' m', f_L_change fu p1 p2 p3 p4 M = some (ek k0, M') ∧ SM M' m' M0 m0 t u := by
  obtain ⟨M', a1, a2⟩ := eC (k0 := k0) (cs := [1, 2]) h (change_call (p1 := p1) (p2 := p2) (p3 := p3) (p4 := p4) hfu h.1 ht hu) hx .up0 (by rw [up_s]; rcases hk with rfl | rfl <;> rfl) (by rcases hk with rfl | rfl <;> decide) (by rcases hk with rfl | rfl <;> decide) (by rcases hk with rfl | rfl <;> simp) ht hu
  exact ⟨M', _, by rw [if_neg (by omega)] at a1; exact a1, a2⟩
theorem xcc1 (hfu : 5000 ≤ fu) (hW : WR M m t u RR) (hs : s < 6) (h : p3 < 0 ∨ nI (cs s) ≤ p3) : f_X11_canChange fu (nI s) p2 p3 p4 m = some 1 := by
  obtain ⟨ep, _⟩ := hW.place (v := p2) hfu hs
  simp only [f_X11_canChange, ep, bd_some, isCol0 hs, h, if_true, ite_self]
theorem xcc2 (hfu : 5000 ≤ fu) (hW : WR M m t u RR) (hs : s < 6) (h : fst (RR s) p2 = none) : f_X11_canChange fu (nI s) p2 p3 p4 m = some 1 := by
  obtain ⟨ep, eo⟩ := hW.place (v := p2) hfu hs
  rw [h] at ep eo
  simp only [f_X11_canChange, ep, bd_some, eo, if_true]
theorem fst_m1 (hk : okW R) : fst R (-1) = none := by
  rw [fst_none]
  intro r hr e
  obtain ⟨k, hk1, hk2⟩ := (hk r hr).1
  rw [e] at hk2
  have := nI_pos (n := k) (by omega)
  rw [← hk2] at this
  exact this (by decide)
theorem lchg (hfu : 5000 ≤ fu) (h : RWl M s R) (hs : s < 6) (hk : okW R) (hc : c < 4) : f_L_changeable fu (nI s) v (nI c) x M = some (if fst R v = none ∨ ¬ c < cs s then -7100 else if ¬ s < 2 ∧ c = 0 ∨ f_X11_isCell (nI s) (nI c) x = 0 then -7200 else 0) := by
  have h10 := h.2.1
  have h4 := cs_le (s := s)
  have hle1 : (nI s ≤ 1) = (s < 2) := by
    rw [show (1 : Int32) = nI 1 from rfl, nI_leI (by omega) (by omega)]
    exact propext (by omega)
  have hc0 : (nI c = 0) = (c = 0) := by rw [show (0 : Int32) = nI 0 from rfl, nI_eq (by omega) (by omega)]
  have hcn : (nI c < 0) = False := eq_false (nI_pos (by omega))
  have hcl : (nI c < nI (cs s)) = (c < cs s) := by rw [nI_ltI (by omega) (by omega)]
  simp only [f_L_changeable, lplace_eq hfu h hs hk, bd_some, oIneg (m := v) (R := R) (by omega), jn_d, lcol hs, lcan hs hc, hle1, hc0, hcn, hcl, if_false]
  generalize f_X11_isCell (nI s) (nI c) x = y
  by_cases z1 : fst R v = none
  · simp [z1]
  by_cases z2 : c < cs s
  · by_cases z3 : s < 2 <;> by_cases z4 : c = 0 <;> by_cases z5 : y = 0 <;> simp [z1, z2, z3, z4, z5] <;> simp_all <;> omega
  · simp [z1, z2]
theorem wr_5 (hfu : 5000 ≤ fu) (h : INV M m t u) (ht : t < 2 ^ 26) (hu : u < 62) (hs : s < 6) (hR : RLL M m RR) (hW : WR M m t u RR) (hc : c < 4) : RES (bm (f_L_change fu 6 v (nI c) x M) (fun r_34 M_35 => (if r_34 = (-7100) then bm (f_L_change fu (nI s) v 4 x M_35) (fun r_38 M_39 => (if r_38 = (-7100) then bm (f_L_change fu (nI s) v (-1) x M_39) (fun r_42 M_43 => (if r_42 = (-7100) then bm (f_L_change fu (nI s) (-1) 1 x M_43) (fun r_46 M_47 => (if r_46 = (-7100) then bd (f_L_changeable fu (nI s) v (nI c) x M_47) (fun r_50 => (if r_50 = 0 then grd (inb ((10 * (nI s)) + oI (fst (RR s) v)) 60) (nm (f_L_at (lg (M_47 142) ((10 * (nI s)) + oI (fst (RR s) v)).toNatClampNeg) (nI c)) (fun x18_54 => bm (f_L_kept fu (nI s) (nI c) x M_47) (fun r_56 M_57 => nm (upL M_57 142 ((10 * (nI s)) + oI (fst (RR s) v)).toNatClampNeg (f_L_with (lg (M_47 142) ((10 * (nI s)) + oI (fst (RR s) v)).toNatClampNeg) (nI c) r_56)) (fun M_59 => bd (f_L_written fu (nI s) M_59) (fun M_61 => bm (f_L_change fu (nI s) v (nI c) x M_61) (fun r_63 M_64 => (if r_63 = x18_54 then some ((1 : Int32), M_64) else some ((0 : Int32), M_64)))))))) else bm (f_L_change fu (nI s) v (nI c) x M_47) (fun r_67 M_68 => (if r_67 = r_50 then some ((1 : Int32), M_68) else some ((0 : Int32), M_68))))) else some ((0 : Int32), M_47))) else some ((0 : Int32), M_43))) else some ((0 : Int32), M_39))) else some ((0 : Int32), M_35)))) t u := by
  have ht' : t < 2 ^ 29 := by omega
  have hu' : u < 2 ^ 29 := by omega
  have h4 := cs_le (s := s)
  have w3 : ∀ M' m', SM M' m' M m t u → RLL M' m' RR ∧ WR M' m' t u RR := fun M' m' h' => by
    obtain ⟨RR2, r1, r2⟩ := (h'.inv h.1).wr
    have e : ∀ s, s < 6 → RR2 s = RR s := fun s hs => by
      have g1 := (r1 s hs).2.1
      have g2 := (hR s hs).2.1
      exact RM_inj g1 (g2.cg (by rw [h'.2.2.1 1 (by omega)]) (h'.2.2.1 2 (by omega)) (h'.2.2.1 3 (by omega)))
    refine ⟨fun s hs => by rw [← e s hs]; exact r1 s hs, r2.1, fun s hs => by rw [← e s hs]; exact r2.2.1 s hs, fun s hs => by rw [← e s hs]; exact r2.2.2.1 s hs, r2.2.2.2⟩
  refine ech (change_e (k0 := 1) hfu h.sm ht' hu' (Or.inl rfl) (xchange1 (by decide))) fun M2 m2 h2 => ?_
  refine ech (change_e (k0 := 1) hfu h2 ht' hu' (Or.inl rfl) (xchange2 hs (xcc1 hfu (w3 _ _ h2).2 hs (Or.inr (by rw [show (4 : Int32) = nI 4 from rfl, nI_leI (by omega) (by omega)]; omega))) (by decide))) fun Ma ma ha => ?_
  refine ech (change_e (k0 := 1) hfu ha ht' hu' (Or.inl rfl) (xchange2 hs (xcc1 hfu (w3 _ _ ha).2 hs (Or.inl (by decide))) (by decide))) fun Mb mb hb => ?_
  refine ech (change_e (k0 := 1) hfu hb ht' hu' (Or.inl rfl) (xchange2 hs (xcc2 hfu (w3 _ _ hb).2 hs (fst_m1 (hR s hs).2.2)) (by decide))) fun M3 m3 h3 => ?_
  obtain ⟨hR3, hW3⟩ := w3 _ _ h3
  have hI3 := h3.inv h.1
  obtain ⟨q1, q2, q3⟩ := hR3 s hs
  have h10 := q1.2.1
  obtain ⟨ep, eo'⟩ := hW3.place (v := v) hfu hs
  rw [lchg hfu q1 hs q3 hc, bd_some]
  have err : ∀ k0, (k0 = 1 ∨ k0 = 2) → f_X11_canChange fu (nI s) v (nI c) x m3 = some (nI k0) → RES (bm (f_L_change fu (nI s) v (nI c) x M3) (fun r_67 M_68 => (if r_67 = ek k0 then some ((1 : Int32), M_68) else some ((0 : Int32), M_68)))) t u := fun k0 hk hcc => ech (change_e (k0 := k0) hfu h3 ht' hu' hk (xchange2 hs hcc (by rcases hk with rfl | rfl <;> decide))) fun M4 m4 h4 => .ok (h4.inv h.1)
  by_cases z1 : fst (RR s) v = none ∨ ¬ c < cs s
  · rw [if_pos z1, if_neg (by decide)]
    refine err 1 (Or.inl rfl) ?_
    rcases z1 with z1 | z1
    · exact xcc2 hfu hW3 hs z1
    · exact xcc1 hfu hW3 hs (Or.inr (by rw [nI_leI (by omega) (by omega)]; omega))
  · obtain ⟨p, hp⟩ : ∃ p, fst (RR s) v = some p := by
      cases hp : fst (RR s) v with
      | none => exact absurd (Or.inl hp) z1
      | some p => exact ⟨p, rfl⟩
    have hcs : c < cs s := by omega
    rw [hp] at ep eo'
    have hcc := canCh (x := x) hs hcs ep eo'
    rw [if_neg z1]
    by_cases z2 : ¬ s < 2 ∧ c = 0 ∨ f_X11_isCell (nI s) (nI c) x = 0
    · rw [if_pos z2, if_neg (by decide)]
      rw [if_pos z2] at hcc
      exact err 2 (Or.inr rfl) hcc
    · rw [if_neg z2, if_pos rfl, hp]
      rw [if_neg z2] at hcc
      obtain ⟨r, hr, hmk⟩ := fst_lt hp
      have hpl := gl_lt hr
      obtain ⟨ok1, ok2⟩ := fit_ok hs hc (fun z => z2 (Or.inr z))
      have hcw : s / 2 = 1 → c = 1 := fun z => by
        have : cs s = 2 := by simp only [cs, z, if_true]
        have : c ≠ 0 := fun y => z2 (Or.inl ⟨by omega, y⟩)
        omega
      have e10 : (10 : Int32) * nI s + oI (some p) = nI (10 * s + p) := by
        show (10 : Int32) * nI s + nI p = _
        rw [show (10 : Int32) = nI 10 from rfl, pk_mul, nI_add]
      have hL0 : LR M3 (up m3 0 0 0) t u := hI3.1.cg (fun _ _ _ => rfl) .up0 hI3.1.e3c
      have hR0 : RLL M3 (up m3 0 0 0) RR := hR3.cg rfl rfl (up_n (by omega)) (up_n (by omega)) (up_n (by omega))
      obtain ⟨hL1, hR1⟩ := hL0.los (x := lo s x) hR0
      obtain ⟨b1, hL2, hR2⟩ := hL1.put (v := stv s x) hR1 hs hr hc (stv_ok ok1)
      rw [up_n (by omega)] at b1
      obtain ⟨N2, n2, e2, e3', hL3, f2, f3, _, _, f6, _⟩ := hL2.wrt hfu hs ht hu
      have ekp := kept_eq (fu := fu) (m := up m3 0 0 0) hs hcw ok1 hc
      have epu : f_X11_puts fu (nI s) v (nI c) (stv s x) (up (up m3 0 0 0) 0 6 ((up m3 0 0 0) 0 6 + lo s x)) = some (cel r c, n2) := by rw [puts_eq hfu hs (hR1 s hs).2.1 (hW3.2.2.1 s hs).1.nd hp hr hc, e3', bd_some]
      obtain ⟨M6, a1, a2, a3⟩ := rCall (k0 := 0) (cs := [1, 2]) hL3 (change_call (p1 := nI s) (p2 := v) (p3 := nI c) (p4 := x) hfu (hI3.2.cgC (N := N2) (fun a ha => by rw [f2 a (by omega) (by omega) (by omega) (by omega), upL_n (by omega), up_n (by omega)])) ht' hu') (xchange0 hs hcc ekp epu) (by rw [f3, up_n (by omega), up_m (by omega), up_s]; rfl) (by decide) (by decide) (by decide) ht' (by omega) hu'
      have a1' : f_L_change fu (nI s) v (nI c) x N2 = some (cel r c, M6) := a1
      rw [e10, inb_nI (by omega) (by omega), grd_true, nI_clamp (by omega), nm_d, lkept hs hc hcw ok1, bm_some, nm_d, b1, e2, bd_some, atL q1 q3 hr hc, a1', bm_some, if_pos rfl]
      exact ⟨M6, n2, t, u + 1, rfl, a2, by omega, by omega, by omega, by omega⟩
theorem cb19 : ∀ k : Fin 1999, -999 ≤ nI k.val - 999 ∧ nI k.val - 999 ≤ 999 := by decide +kernel
theorem cb5 : ∀ k : Fin 5, -999 ≤ 100 + nI k.val ∧ 100 + nI k.val ≤ 999 := by decide +kernel
theorem cb6 : ∀ k : Fin 6, (-999 ≤ nI k.val - 3 ∧ nI k.val - 3 ≤ 999) ∧ (-999 ≤ nI k.val - 0 ∧ nI k.val - 0 ≤ 999) := by decide +kernel
theorem cellBy_ok : ∃ v, f_L_cellBy fu x M = some v ∧ okc v := by
  have lw : ∀ (y : Int32) j, 0 < j → j < 2 ^ 30 → ∃ k, k < j ∧ f_L_low fu y (nI j) M = some (nI k) := fun y j h0 h1 => low_eq h0 h1
  obtain ⟨k1, h1, e1⟩ := lw x 12 (by omega) (by omega)
  obtain ⟨k2, h2, e2⟩ := lw (x >>> (4 &&& 31)) 1999 (by omega) (by omega)
  obtain ⟨k3, h3, e3'⟩ := lw (x >>> (4 &&& 31)) 5 (by omega) (by omega)
  obtain ⟨k4, h4, e4⟩ := lw (x >>> (4 &&& 31)) 6 (by omega) (by omega)
  have e1' : f_L_low fu x 12 M = some (nI k1) := e1
  have e2' : f_L_low fu (x >>> (4 &&& 31)) 1999 M = some (nI k2) := e2
  have e3'' : f_L_low fu (x >>> (4 &&& 31)) 5 M = some (nI k3) := e3'
  have e4' : f_L_low fu (x >>> (4 &&& 31)) 6 M = some (nI k4) := e4
  unfold f_L_cellBy
  rw [e1', bd_some, e2', e3'', e4', bd_some, bd_some, bd_some]
  by_cases z0 : nI k1 = 0
  · exact ⟨5000, by rw [if_pos z0], Or.inl rfl⟩
  by_cases z1 : nI k1 = 1
  · exact ⟨5001, by rw [if_neg z0, if_pos z1], Or.inr (Or.inl rfl)⟩
  by_cases z2 : nI k1 = 2
  · exact ⟨_, by rw [if_neg z0, if_neg z1, if_pos z2], Or.inr (Or.inr (cb19 ⟨k2, h2⟩))⟩
  by_cases z3 : nI k1 = 3
  · exact ⟨_, by rw [if_neg z0, if_neg z1, if_neg z2, if_pos z3], Or.inr (Or.inr (cb5 ⟨k3, h3⟩))⟩
  by_cases z4 : nI k1 = 4
  · exact ⟨_, by rw [if_neg z0, if_neg z1, if_neg z2, if_neg z3, if_pos z4], Or.inr (Or.inr (cb6 ⟨k4, h4⟩).1)⟩
  · exact ⟨_, by rw [if_neg z0, if_neg z1, if_neg z2, if_neg z3, if_neg z4], Or.inr (Or.inr (cb6 ⟨k4, h4⟩).2)⟩
theorem cbK {K : Int32 → Option (Int32 × Mem)} (h : ∀ v, okc v → RES (K v) t1 u1) : RES (bd (f_L_cellBy fu x M) K) t1 u1 := by
  obtain ⟨v, e, hv⟩ := cellBy_ok (fu := fu) (x := x) (M := M)
  rw [e, bd_some]
  exact h v hv
theorem writes_ok (hfu : 5000 ≤ fu) (h : INV M m t u) (ht : t < 2 ^ 26) (hu : u < 62) : RES (f_L_writes fu p1 p2 p3 M) t u := by
  unfold f_L_writes
  obtain ⟨RR, hR, hW⟩ := h.wr
  refine lowK (j := 6) rfl (by omega) (by omega) fun s hs => lowK (j := 12) rfl (by omega) (by omega) fun k hk => RES.if (fun h5 => ?_) (fun h5 => ?_)
  · rw [inb_nI (by omega) (by omega), grd_true]
    refine jnK (P := fun _ => True) ?_ ?_
    · intro v _
      rw [lplace_eq hfu (hR s hs).1 hs (hR s hs).2.2, bd_some]
      exact RES.if (fun _ => wr_8 hfu h ht hu hs hR hW) (fun _ => lowK (j := 4) rfl (by omega) (by omega) fun c hc => cbK fun x hx => wr_5 hfu h ht hu hs hR hW hc)
    · intro q hq
      refine RES.if (fun _ => hq _ trivial) (fun hn => RES.if (fun _ => hq _ trivial) (fun _ => ?_))
      have el : M 143 (nI s).toNatClampNeg = nI (RR s).length := by rw [nI_clamp (by omega)]; exact (hR s hs).1.1
      have h10 := (hR s hs).1.2.1
      rw [el] at hn
      have hl : 0 < (RR s).length := by
        rw [show (0 : Int32) = nI 0 from rfl, nI_leI (by omega) (by omega)] at hn
        omega
      refine lowK el hl (by omega) fun k hk => ?_
      have e10 : (10 : Int32) * nI s + nI k = nI (10 * s + k) := by
        rw [show (10 : Int32) = nI 10 from rfl, pk_mul, nI_add]
      rw [e10, inb_nI (by omega) (by omega), grd_true, nm_d]
      exact hq _ trivial
  · refine jnK (P := fun _ => True) ?_ ?_
    · intro a _
      refine cbK fun b _ => jnK (P := fun _ => True) ?_ ?_
      · intro x _
        refine jnK (P := fun _ => True) ?_ ?_
        · intro y _
          exact wr_0 hfu h ht hu hs
        · intro q hq
          exact RES.if (fun _ => hq _ trivial) (fun _ => cbK fun _ _ => hq _ trivial)
      · intro q hq
        exact RES.if (fun _ => RES.if (fun _ => hq _ trivial) (fun _ => hq _ trivial)) (fun _ => cbK fun _ _ => hq _ trivial)
    · intro q hq
      refine RES.if (fun _ => cbK fun _ _ => hq _ trivial) (fun _ => ?_)
      rw [nm_d]
      obtain ⟨j, j1, j2, j3⟩ : ∃ j, 0 < j ∧ j ≤ 102 ∧ (if (p2 &&& 768) = 0 then (102 : Int32) else 12) = nI j := by
        by_cases z : (p2 &&& 768) = 0
        · exact ⟨102, by omega, by omega, by rw [if_pos z]; rfl⟩
        · exact ⟨12, by omega, by omega, by rw [if_neg z]; rfl⟩
      refine lowK j3 j1 (by omega) fun k hk => ?_
      rw [nm_d]
      exact hq _ trivial
end ChgL
