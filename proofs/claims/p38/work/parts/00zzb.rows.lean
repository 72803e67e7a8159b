/-! ===== rows: read, changed, removed, added ===== -/
def cs (s : Nat) : Nat := if s / 2 = 1 then 2 else 4
def rm (m : Mem) (RR : Nat → List Row) (s : Nat) (a : Int32) : Prop := (RR s).length < 12 ∧ (s < 2 → m 4 s ≠ nI 60) ∧ (¬ s < 2 → fst (RR s) a = none)
section RowsCalls
variable {fu nS nL nC nO i j s t u e p c : Nat} {M m N n : Mem} {RR RR' : Nat → List Row} {R : List Row} {v x p1 p2 p3 p4 p5 p6 a b d w : Int32} {km : Nat → Nat} {f : Option XR} {g : Option (Int32 × Mem)}
theorem cs_le : cs s ≤ 4 := by simp only [cs]; split <;> omega
theorem colF (hs : s < 6) : f_X10_columnsIn (f_X10_storeOf (nI s)) = nI (cs s) := by
  simp only [f_X10_columnsIn, sto1 hs, cs]
  split <;> rfl
theorem lt12 : ((1 : Int32) < x) = (nI 2 ≤ x) := propext (by
  rw [i_lt, i_le, show (1 : Int32).toInt = 1 from by decide, show (nI 2).toInt = 2 from by decide]; omega)
theorem lt34 : ((3 : Int32) < x) = (nI 4 ≤ x) := propext (by
  rw [i_lt, i_le, show (3 : Int32).toInt = 3 from by decide, show (nI 4).toInt = 4 from by decide]; omega)
theorem isCol0 (hs : s < 6) : (f_X11_isColumn (nI s) x = 0) = (x < 0 ∨ nI (cs s) ≤ x) := by
  simp only [f_X11_isColumn, st_store, sto1 hs, nm_d, cs, in0]
  split
  · rw [lt12]
  · rw [lt34]
theorem isCol (hs : s < 6) (hc : c < cs s) : f_X11_isColumn (nI s) (nI c) ≠ 0 := by
  rw [Ne, isCol0 hs]
  have := cs_le (s := s)
  exact good (by omega) hc
theorem needC1 (h1 : p1 < 0 ∨ nI 6 ≤ p1) : f_X10_needCell fu p1 p2 p3 M = some (1, 0, M) := by
  simp only [f_X10_needCell, needI6, h1, if_true, bx_1, xer]
theorem needC2 (hs : s < 6) (h1 : p3 < 0 ∨ nI (cs s) ≤ p3) : f_X10_needCell fu (nI s) p2 p3 M = some (1, 0, M) := by
  have g1 := good (b := 6) (by omega) hs
  simp only [f_X10_needCell, needI6, g1, if_false, bx_0, colF hs, needI (b := nI (cs s)), h1, if_true, bx_1, xer]
theorem needC3 (hfu : 5000 ≤ fu) (hs : s < 6) (hc : c < cs s) (hR : RC M (62 + 3 * s) R) : f_X10_needCell fu (nI s) p2 (nI c) M = if fst R p2 = none then some (1, 0, M) else some (0, 0, M) := by
  have := cs_le (s := s)
  have g1 := good (b := 6) (by omega) hs
  have g2 := good (b := cs s) (by omega) hc
  simp (disch := omega) only [f_X10_needCell, needI6, g1, g2, if_false, bx_0, colF hs, needI (b := nI (cs s)), inb_nI, grd_true, nm_d, nI_clamp, Nat.reduceAdd, hasMark_eq hfu hR, bd_some]
  by_cases z : fst R p2 = none
  · simp only [z, if_true, f_X10_needPlace, bx_1, xer]
  · simp only [z, if_false, f_X10_needPlace, i10, bx_0]
/-- what a call that writes rows leaves -/
theorem REL.wr {t' u' : Nat} (h : REL M m t u) (hW : WR N n t' u' RR') (fC : FCw N M) (fM : FMw n m) : REL N n t' u' := by
  obtain ⟨RR, nS, nL, nC, nO, w1, w2, w3, w4, w5, w6, ⟨⟨k, cols, k1, k2, k3, k4, k5, k6, k7⟩, l2, l3, l4, l5, l6, p, p1, p2, p3, p4⟩, w8⟩ := h
  have hD : DS n m := ⟨fun a z1 z2 => fM.1 a (by omega) (by omega), fun j z1 z2 => fM.2.1 j (by omega) (by omega) (by omega)⟩
  refine ⟨RR', nS, nL, nC, nO, hW, w2.cg (fun a z1 z2 => fC a (by omega)) hD, w3.cg hD, w4.cg (fC 59 (by omega)) (fM.1 18 (by omega) (by omega)), w5.cg (fC 54 (by omega)) (fM.1 17 (by omega) (by omega)), by rw [fC 121 (by omega), fM.1 48 (by omega) (by omega)]; exact w6, ⟨⟨k, cols, k1, k2, by rw [fC 90 (by omega)]; exact k3, by rw [fM.2.1 75 (by omega) (by omega) (by omega)]; exact k4, by rw [fC 90 (by omega)]; exact k5, by rw [fM.2.1 76 (by omega) (by omega) (by omega)]; exact k6, fun x c hx hc => by rw [fC 91 (by omega), fM.1 56 (by omega) (by omega)]; exact k7 x c hx hc⟩, ?_, ?_, ?_, ?_, ?_, p, p1, ?_, ?_, ?_⟩, w8.cg ⟨fun a z1 z2 => fC a (by omega), fun a z1 z2 => fM.1 a (by omega) (by omega), fM.2.1 85 (by omega) (by omega) (by omega)⟩⟩
  · rw [fC 90 (by omega), fM.2.1 78 (by omega) (by omega) (by omega)]; exact l2
  · rw [fC 90 (by omega), fM.2.1 79 (by omega) (by omega) (by omega)]; exact l3
  · rw [fC 90 (by omega), fM.2.1 80 (by omega) (by omega) (by omega)]; exact l4
  · rw [fC 90 (by omega), fM.2.1 81 (by omega) (by omega) (by omega)]; exact l5
  · rw [fC 90 (by omega), fM.2.1 82 (by omega) (by omega) (by omega)]; exact l6
  · rw [fC 90 (by omega)]; exact p2
  · rw [fM.2.1 83 (by omega) (by omega) (by omega)]; exact p3
  · rw [fC 93 (by omega), fC 94 (by omega), fM.1 57 (by omega) (by omega)]; exact p4
theorem oI_m1 {o : Option Nat} (h : ∀ p, o = some p → p < 2 ^ 31) : (oI o = -1) = (o = none) := by
  cases o with
  | none => exact propext ⟨fun _ => rfl, fun _ => rfl⟩
  | some p =>
    refine propext ⟨fun z => ?_, fun z => by cases z⟩
    exact absurd z (i_nm1 (h p rfl))
theorem fst_b (hR : R.length ≤ 12) : ∀ p, fst R v = some p → p < 2 ^ 31 := fun p hp => by
  obtain ⟨r, hr, _⟩ := fst_lt hp
  have := gl_lt hr
  omega
/-- where a row is: both -/
theorem WR.place (hfu : 5000 ≤ fu) (h : WR M m t u RR) (hs : s < 6) : f_X11_placeOf fu (nI s) v m = some (oI (fst (RR s) v)) ∧ (oI (fst (RR s) v) = -1) = (fst (RR s) v = none) :=
  ⟨mplace_eq hfu (h.2.1 s hs).2 hs (h.2.2.1 s hs).1.nd, oI_m1 (fst_b (h.2.1 s hs).1.2.1)⟩
theorem cell_call (hfu : 5000 ≤ fu) (h : REL M m t u) : OUT kmC t u (f_X10_cell fu p1 p2 p3 M) (f_X11_cell fu p1 p2 p3 m) := by
  rcases idx 6 (by omega) p1 with h1 | ⟨s, hs, rfl⟩
  · refine OUT.same (k := 1) (v := 0) (p1 := 0) h (by omega) ?_ ?_ (fun hk => by omega)
    · simp only [f_X10_cell, needC1 h1, bx_1, xer]
    · simp only [f_X11_cell, jn_d, nm_d, isSource0, h1, if_true, up_s, le10, if_false]
      rfl
  have g1 := good (b := 6) (by omega) hs
  obtain ⟨RR, _, _, _, _, w1, _⟩ := id h
  obtain ⟨ep, eo⟩ := w1.place (v := p2) hfu hs
  have h4 := cs_le (s := s)
  rcases idx (cs s) (by omega) p3 with h2 | ⟨c, hc, rfl⟩
  · refine OUT.same (k := 1) (v := 0) (p1 := 0) h (by omega) ?_ ?_ (fun hk => by omega)
    · simp only [f_X10_cell, needC2 hs h2, bx_1, xer]
    · simp only [f_X11_cell, jn_d, nm_d, isSource0, g1, if_false, ep, bd_some, isCol0 hs, h2, if_true, ite_self, up_s, le10]
      rfl
  have hcol := isCol hs hc
  cases hp : fst (RR s) p2 with
  | none =>
    rw [hp] at ep eo
    refine OUT.same (k := 1) (v := 0) (p1 := 0) h (by omega) ?_ ?_ (fun hk => by omega)
    · simp only [f_X10_cell, needC3 hfu hs hc (w1.2.1 s hs).1, hp, if_true, bx_1, xer]
    · simp only [f_X11_cell, jn_d, nm_d, isSource0, g1, if_false, ep, bd_some, eo, if_true, up_s, le10, if_false]
      rfl
  | some p =>
    rw [hp] at ep eo
    obtain ⟨r, hr, _⟩ := fst_lt hp
    have hl := gl_lt hr
    have h12 := (w1.2.1 s hs).1.2.1
    have hp' : (some p = none) = False := eq_false (by simp)
    obtain ⟨RR', _, _, _, _, w1', _⟩ := h.up0 0
    have ep' : f_X11_placeOf fu (nI s) p2 (up m 0 0 0) = some (nI p) := by
      have hM : RM (up m 0 0 0) s (RR s) := (w1.2.1 s hs).2.cg (by rw [up_n (by omega)]) (by rw [up_n (by omega)]) (by rw [up_n (by omega)])
      rw [mplace_eq hfu hM hs (w1.2.2.1 s hs).1.nd, hp]; rfl
    refine OUT.same (k := 0) (v := cel r c) (p1 := cel r c) h (by omega) ?_ ?_ (fun _ => rfl)
    · have e1 : f_X6_placeOf fu (62 + 3 * s) p2 M = some (nI p) := by rw [placeOf_eq hfu (w1.2.1 s hs).1, hp]; rfl
      simp (disch := omega) only [f_X10_cell, needC3 hfu hs hc (w1.2.1 s hs).1, hp, hp', if_false, bx_0, inb_nI, grd_true, nm_d, nI_clamp, Nat.reduceAdd, e1, bd_some, cellAt_eq (w1.2.1 s hs).1 hr (show c < 4 by omega)]
    · have hM := (w1.2.1 s hs).2.cell hr (show c < 4 by omega)
      have ei : 4 * (12 * nI s + nI p) + nI c = nI (4 * (12 * s + p) + c) := by
        rw [show (4 : Int32) = nI 4 from rfl, show (12 : Int32) = nI 12 from rfl, pk_mul, nI_add, pk_mul, nI_add]
      simp (disch := omega) only [f_X11_cell, jn_d, nm_d, isSource0, g1, if_false, ep, bd_some, eo, hp', hcol, up_s, Int32.le_refl, if_true, ep', ei, inb_nI, grd_true, nI_clamp, up_n, hM]
      rfl
theorem mayCh (hs : s < 6) (hc : c < 4) : (f_X10_mayChangeTo (f_X10_storeOf (nI s)) (nI c) v = 0) = (¬ s < 2 ∧ c = 0 ∨ f_X11_isCell (nI s) (nI c) v = 0) := by
  have hc0 : (nI c = 0) = (c = 0) := by rw [show (0 : Int32) = nI 0 from rfl, nI_eq (by omega) (by omega)]
  have e : f_X11_isCell (nI s) (nI c) v = f_X10_cellFits (f_X10_storeOf (nI s)) (nI c) v := by rw [st_fit hs hc, sto hs]
  rw [e]
  simp only [f_X10_mayChangeTo, f_X10_isKeyColumn, hc0, sto0 hs]
  generalize f_X10_cellFits (f_X10_storeOf (nI s)) (nI c) v = y
  by_cases z1 : c = 0 <;> by_cases z2 : s < 2 <;> by_cases z3 : y = 0 <;> simp only [z1, z2, z3, if_true, if_false, i10, not_true, not_false_iff, true_and, false_and, or_true, true_or, or_false, false_or, eq_self, or_self]
theorem fit_ok (hs : s < 6) (hc : c < 4) (h : f_X11_isCell (nI s) (nI c) v ≠ 0) : okc v ∧ (s / 2 = 1 → c = 1 → v ≠ 5001) := by
  rw [st_fit hs hc] at h
  revert h
  have h2 : c = 0 ∨ c = 1 ∨ c = 2 ∨ c = 3 := by omega
  have h3 : s / 2 = 0 ∨ s / 2 = 1 ∨ s / 2 = 2 := by omega
  rcases h3 with h3 | h3 | h3 <;> rw [h3] <;> rcases h2 with rfl | rfl | rfl | rfl <;>
    simp (decide := true) only [f_X10_cellFits, f_X10_columnsIn, f_X10_isKeyColumn, f_X10_isIn, okc] <;> grind
theorem canCh {p : Nat} (hs : s < 6) (hc : c < cs s) (ep : f_X11_placeOf fu (nI s) v m = some (oI (some p))) (eo : (oI (some p) = -1) = (some p = none)) : f_X11_canChange fu (nI s) v (nI c) x m = some (if ¬ s < 2 ∧ c = 0 ∨ f_X11_isCell (nI s) (nI c) x = 0 then 2 else 0) := by
  have hcol := isCol hs hc
  have h4 := cs_le (s := s)
  have hp' : (some p = none) = False := eq_false (by simp)
  have hle1 : (nI s ≤ 1) = (s < 2) := by
    rw [show (1 : Int32) = nI 1 from rfl, nI_leI (by omega) (by omega)]
    exact propext (by omega)
  have hc0 : (nI c = 0) = (c = 0) := by rw [show (0 : Int32) = nI 0 from rfl, nI_eq (by omega) (by omega)]
  simp only [f_X11_canChange, ep, bd_some, eo, hp', hcol, if_false, jn_d, hle1, hc0]
  generalize f_X11_isCell (nI s) (nI c) x = y
  by_cases z1 : s < 2
  · by_cases z3 : y = 0
    · rw [if_pos z1, if_pos z3, if_pos (Or.inr z3)]
    · rw [if_pos z1, if_neg z3, if_neg (by rintro (⟨w, _⟩ | w); exact w z1; exact z3 w)]
  · by_cases z2 : c = 0
    · rw [if_neg z1, if_pos z2, if_pos (Or.inl ⟨z1, z2⟩)]
    · by_cases z3 : y = 0
      · rw [if_neg z1, if_neg z2, if_pos z3, if_pos (Or.inr z3)]
      · rw [if_neg z1, if_neg z2, if_neg z3, if_neg (by rintro (⟨_, w⟩ | w); exact z2 w; exact z3 w)]
theorem change_call (hfu : 5000 ≤ fu) (h : REL M m t u) (ht : t < 2 ^ 29) (hu : u < 2 ^ 29) : OUT kmB t u (f_X10_change fu p1 p2 p3 p4 M) (f_X11_change fu p1 p2 p3 p4 m) := by
  rcases idx 6 (by omega) p1 with h1 | ⟨s, hs, rfl⟩
  · refine OUT.same (k := 1) (v := 0) (p1 := 0) h (by omega) ?_ ?_ (fun hk => by omega)
    · simp only [f_X10_change, needC1 h1, bx_1, xer]
    · simp only [f_X11_change, jn_d, nm_d, isSource0, h1, if_true, up_s, le10, if_false]
      rfl
  have g1 := good (b := 6) (by omega) hs
  obtain ⟨RR, _, _, _, _, w1, _⟩ := id h
  obtain ⟨ep, eo⟩ := w1.place (v := p2) hfu hs
  have h4 := cs_le (s := s)
  rcases idx (cs s) (by omega) p3 with h2 | ⟨c, hc, rfl⟩
  · refine OUT.same (k := 1) (v := 0) (p1 := 0) h (by omega) ?_ ?_ (fun hk => by omega)
    · simp only [f_X10_change, needC2 hs h2, bx_1, xer]
    · simp only [f_X11_change, jn_d, nm_d, isSource0, g1, if_false, f_X11_canChange, ep, bd_some, isCol0 hs, h2, if_true, ite_self, up_s, le10]
      rfl
  have hcol := isCol hs hc
  cases hp : fst (RR s) p2 with
  | none =>
    rw [hp] at ep eo
    refine OUT.same (k := 1) (v := 0) (p1 := 0) h (by omega) ?_ ?_ (fun hk => by omega)
    · simp only [f_X10_change, needC3 hfu hs hc (w1.2.1 s hs).1, hp, if_true, bx_1, xer]
    · simp only [f_X11_change, jn_d, nm_d, isSource0, g1, if_false, f_X11_canChange, ep, bd_some, eo, if_true, up_s, le10]
      rfl
  | some p =>
    rw [hp] at ep eo
    have hp' : (some p = none) = False := eq_false (by simp)
    have hmay := mayCh (v := p4) hs (show c < 4 by omega)
    have hcan := canCh (x := p4) hs hc ep eo
    by_cases hbad : ¬ s < 2 ∧ c = 0 ∨ f_X11_isCell (nI s) (nI c) p4 = 0
    · have hmay' : f_X10_mayChangeTo (f_X10_storeOf (nI s)) (nI c) p4 = 0 := hmay ▸ hbad
      refine OUT.same (k := 2) (v := 0) (p1 := 0) h (by omega) ?_ ?_ (fun hk => by omega)
      · simp only [f_X10_change, needC3 hfu hs hc (w1.2.1 s hs).1, hp, hp', if_false, bx_0, hmay', f_X10_needArgument, if_true, bx_2, xer]
      · rw [if_pos hbad] at hcan
        simp only [f_X11_change, jn_d, nm_d, isSource0, g1, if_false, hcan, bd_some, up_s, le20]
        rfl
    · have hmay' : ¬ f_X10_mayChangeTo (f_X10_storeOf (nI s)) (nI c) p4 = 0 := fun z => hbad (hmay ▸ z)
      rw [if_neg hbad] at hcan
      obtain ⟨r, hr, _⟩ := fst_lt hp
      obtain ⟨ok1, ok2⟩ := fit_ok hs (show c < 4 by omega) (fun z => hbad (Or.inr z))
      have hcw : s / 2 = 1 → c = 1 := fun z => by
        have : cs s = 2 := by simp only [cs, z, if_true]
        have : c ≠ 0 := fun y => hbad (Or.inl ⟨by omega, y⟩)
        omega
      have hW : WR M (up m 0 0 0) t u RR := by
        refine w1.of (w1.1.cg (fun _ _ _ _ => rfl) ?_ ?_ ?_ (fun a _ _ => up_n (by omega)) (fun a _ _ => up_n (by omega))) (fun _ _ _ _ => rfl) (fun a _ _ => up_n (by omega)) (up_m (by omega)) <;> exact up_m (by omega)
      obtain ⟨N, n, e1, e2, e3, e4, e5⟩ := change2 (fu := fu) (v := p4) (w := 0) hfu hs hW ht hu hp hr (show c < 4 by omega) hcw ok1 (fun z => ok2 z (hcw z))
      refine ⟨0, cel r c, N, cel r c, n, t, u + 1, ?_, ?_, ?_, fun _ => rfl, by decide, Nat.le_refl _, by omega, by omega, by omega, (h.up0 0).wr e3 e4 e5⟩
      · simp only [f_X10_change, needC3 hfu hs hc (w1.2.1 s hs).1, hp, hp', if_false, bx_0, hmay', f_X10_needArgument, e1, bm_some]
      · simp only [f_X11_change, jn_d, nm_d, isSource0, g1, if_false, hcan, bd_some, up_s, Int32.le_refl, if_true, kept_eq hs hcw ok1 (show c < 4 by omega), bm_some, e2]
      · rw [e5.2.1 0 (by omega) (by omega) (by omega), up_s]; rfl
theorem WR.up0 (h : WR M m t u RR) (y : Int32) : WR M (up m 0 0 y) t u RR := by
  refine h.of (h.1.cg (fun _ _ _ _ => rfl) ?_ ?_ ?_ (fun a _ _ => up_n (by omega)) (fun a _ _ => up_n (by omega))) (fun _ _ _ _ => rfl) (fun a _ _ => up_n (by omega)) (up_m (by omega)) <;> exact up_m (by omega)
theorem remove_call (hfu : 5000 ≤ fu) (h : REL M m t u) (ht : t < 2 ^ 29) (hu : u < 2 ^ 29) : OUT kmC t u (f_X10_remove fu p1 p2 M) (f_X11_remove fu p1 p2 m) := by
  rcases idx 6 (by omega) p1 with h1 | ⟨s, hs, rfl⟩
  · refine OUT.same (k := 1) (v := 0) (p1 := 0) h (by omega) ?_ ?_ (fun hk => by omega)
    · simp only [f_X10_remove, needI6, h1, if_true, bx_1, xer]
    · simp only [f_X11_remove, jn_d, nm_d, isSource0, h1, if_true, up_s, le10, if_false]
      rfl
  have g1 := good (b := 6) (by omega) hs
  obtain ⟨RR, _, _, _, _, w1, _⟩ := id h
  obtain ⟨ep, eo⟩ := w1.place (v := p2) hfu hs
  have hh := hasMark_eq (m := p2) hfu (w1.2.1 s hs).1
  cases hp : fst (RR s) p2 with
  | none =>
    rw [hp] at ep eo hh
    refine OUT.same (k := 1) (v := 0) (p1 := 0) h (by omega) ?_ ?_ (fun hk => by omega)
    · simp (disch := omega) only [f_X10_remove, needI6, g1, if_false, bx_0, inb_nI, grd_true, nm_d, nI_clamp, Nat.reduceAdd, hh, bd_some, if_true, f_X10_needPlace, bx_1, xer]
    · simp only [f_X11_remove, jn_d, nm_d, isSource0, g1, if_false, ep, bd_some, eo, if_true, up_s, le10]
      rfl
  | some p =>
    rw [hp] at ep eo hh
    have hp' : (some p = none) = False := eq_false (by simp)
    obtain ⟨N, n, e1, e2, e3, e4, e5⟩ := remove2 (fu := fu) hfu hs (w1.up0 0) ht hu hp
    obtain ⟨c1, c2⟩ := e3.2.1 s hs
    refine ⟨0, N (62 + 3 * s) 2, N, n 1 s, n, t, u + 1, ?_, ?_, ?_, fun _ => by rw [c1.1, c2.1], by decide, Nat.le_refl _, by omega, by omega, by omega, (h.up0 0).wr e3 e4 e5⟩
    · simp (disch := omega) only [f_X10_remove, needI6, g1, if_false, bx_0, inb_nI, grd_true, nm_d, nI_clamp, Nat.reduceAdd, hh, hp', bd_some, f_X10_needPlace, i10, e1]
    · simp (disch := omega) only [f_X11_remove, jn_d, nm_d, isSource0, g1, if_false, ep, bd_some, eo, hp', up_s, Int32.le_refl, if_true, e2, inb_nI, grd_true, nI_clamp]
    · rw [e5.2.1 0 (by omega) (by omega) (by omega), up_s]; rfl
end RowsCalls
