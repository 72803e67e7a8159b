/-! ===== a row is added ===== -/
def fit (s : Nat) (a b c d : Int32) : Prop := f_X11_isCell (nI s) 0 a ≠ 0 ∧ f_X11_isCell (nI s) 1 b ≠ 0 ∧ f_X11_isCell (nI s) 2 c ≠ 0 ∧ f_X11_isCell (nI s) 3 d ≠ 0
section AddCall
variable {fu i j s t u e p : Nat} {M m N n : Mem} {RR RR' : Nat → List Row} {R : List Row} {v x p1 p2 p3 p4 p5 p6 a b c d : Int32} {km : Nat → Nat} {f : Option XR} {g : Option (Int32 × Mem)}
theorem fitE {k : Nat} (hs : s < 6) (hk : k < 4) : f_X10_cellFits (f_X10_storeOf (nI s)) (nI k) v = f_X11_isCell (nI s) (nI k) v := by rw [st_fit hs hk, sto hs]
theorem fitE0 (hs : s < 6) : f_X10_cellFits (f_X10_storeOf (nI s)) 0 v = f_X11_isCell (nI s) 0 v := fitE (k := 0) hs (by omega)
theorem fitE1 (hs : s < 6) : f_X10_cellFits (f_X10_storeOf (nI s)) 1 v = f_X11_isCell (nI s) 1 v := fitE (k := 1) hs (by omega)
theorem fitE2 (hs : s < 6) : f_X10_cellFits (f_X10_storeOf (nI s)) 2 v = f_X11_isCell (nI s) 2 v := fitE (k := 2) hs (by omega)
theorem fitE3 (hs : s < 6) : f_X10_cellFits (f_X10_storeOf (nI s)) 3 v = f_X11_isCell (nI s) 3 v := fitE (k := 3) hs (by omega)
theorem rowF (hs : s < 6) : (f_X10_rowFits (f_X10_storeOf (nI s)) a b c d = 0) = ¬ fit s a b c d := by
  simp only [f_X10_rowFits, fitE0 hs, fitE1 hs, fitE2 hs, fitE3 hs, fit]
  generalize f_X11_isCell (nI s) 0 a = y0
  generalize f_X11_isCell (nI s) 1 b = y1
  generalize f_X11_isCell (nI s) 2 c = y2
  generalize f_X11_isCell (nI s) 3 d = y3
  by_cases z0 : y0 = 0 <;> by_cases z1 : y1 = 0 <;> by_cases z2 : y2 = 0 <;> by_cases z3 : y3 = 0 <;> simp [z0, z1, z2, z3]
theorem fit_canA (hs : s < 6) (h : fit s a b c d) (hr : rm m RR s a) : canA m RR s a b c d := by
  obtain ⟨h0, h1, h2, h3⟩ := h
  obtain ⟨k0, _⟩ := fit_ok (c := 0) hs (by omega) h0
  obtain ⟨k1, k1'⟩ := fit_ok (c := 1) hs (by omega) h1
  obtain ⟨k2, _⟩ := fit_ok (c := 2) hs (by omega) h2
  obtain ⟨k3, _⟩ := fit_ok (c := 3) hs (by omega) h3
  exact ⟨hr.1, hr.2.1, hr.2.2, k0, k1, k2, k3, fun z => k1' z rfl⟩
theorem hasRoom_eq (hfu : 5000 ≤ fu) (h : WR M m t u RR) (hs : s < 6) : (rm m RR s a → f_X7_hasRoom fu (nI s) a M = some 1) ∧ (¬ rm m RR s a → f_X7_hasRoom fu (nI s) a M = some 0) := by
  obtain ⟨c1, c2⟩ := h.2.1 s hs
  obtain ⟨_, _, _, ⟨q, q60, eq, _⟩, _⟩ := h.2.2.1 s hs
  have e58 : M 58 s = nI q := by rw [h.2.2.2.1, eq]
  have e60 : (60 ≤ nI q) = (m 4 s = nI 60) := by
    rw [eq, show (60 : Int32) = nI 60 from rfl, nI_leI (by omega) (by omega), nI_eq (by omega) (by omega)]
    exact propext (by omega)
  have e12 : (M (62 + 3 * s) 2 < 12) = ((RR s).length < 12) := by rw [c1.1, show (12 : Int32) = nI 12 from rfl, nI_ltI (by have := c1.2.1; omega) (by omega)]
  have hh := hasMark_eq (m := a) hfu c1
  have key : f_X7_hasRoom fu (nI s) a M = if (RR s).length < 12 then (if s < 2 then (if m 4 s = nI 60 then some 0 else some 1) else (if fst (RR s) a = none then some 1 else some 0)) else some 0 := by
    simp (disch := omega) only [f_X7_hasRoom, inb_nI, grd_true, nm_d, nI_clamp, Nat.reduceAdd, e12, sto0 hs, e58, e60, hh, bd_some]
    by_cases z : fst (RR s) a = none
    · simp only [z, if_true]
    · simp only [z, if_false, i10]
  rw [key]
  by_cases z1 : (RR s).length < 12 <;> by_cases z2 : s < 2 <;> by_cases z3 : m 4 s = nI 60 <;> by_cases z4 : fst (RR s) a = none <;> simp [rm, z1, z2, z3, z4]
theorem canAdd_eq (hfu : 5000 ≤ fu) (h : WR M m t u RR) (hs : s < 6) : (¬ fit s a b c d → f_X11_canAdd fu (nI s) a b c d m = some 2) ∧ (fit s a b c d → rm m RR s a → f_X11_canAdd fu (nI s) a b c d m = some 0) ∧ (fit s a b c d → ¬ rm m RR s a → f_X11_canAdd fu (nI s) a b c d m = some 3) := by
  obtain ⟨c1, c2⟩ := h.2.1 s hs
  obtain ⟨ep, eo⟩ := h.place (v := a) hfu hs
  have e12 : (m 1 s = 12) = ¬ ((RR s).length < 12) := by
    rw [c2.1, show (12 : Int32) = nI 12 from rfl, nI_eq (by have := c1.2.1; omega) (by omega)]
    have := c1.2.1
    exact propext (by omega)
  have hle1 : (nI s ≤ 1) = (s < 2) := by
    rw [show (1 : Int32) = nI 1 from rfl, nI_leI (by omega) (by omega)]
    exact propext (by omega)
  have hle2 : ((2 : Int32) ≤ nI s) = ¬ (s < 2) := by
    rw [show (2 : Int32) = nI 2 from rfl, nI_leI (by omega) (by omega)]
    exact propext (by omega)
  have key : f_X11_canAdd fu (nI s) a b c d m = if f_X11_isCell (nI s) 0 a = 0 then some 2 else if f_X11_isCell (nI s) 1 b = 0 then some 2 else if f_X11_isCell (nI s) 2 c = 0 then some 2 else if f_X11_isCell (nI s) 3 d = 0 then some 2 else if (RR s).length < 12 then (if s < 2 then (if m 4 s = nI 60 then some 3 else some 0) else (if fst (RR s) a = none then some 0 else some 3)) else some 3 := by
    simp (disch := omega) only [f_X11_canAdd, inb_nI, grd_true, nI_clamp, e12, jn_d, hle1, hle2, ep, bd_some, eo, show (60 : Int32) = nI 60 from rfl]
    generalize f_X11_isCell (nI s) 0 a = y0
    generalize f_X11_isCell (nI s) 1 b = y1
    generalize f_X11_isCell (nI s) 2 c = y2
    generalize f_X11_isCell (nI s) 3 d = y3
    by_cases z1 : (RR s).length < 12 <;> by_cases z2 : s < 2 <;> by_cases z4 : fst (RR s) a = none <;> simp only [z1, z2, z4, if_true, if_false, not_true, not_false_iff]
  rw [key]
  simp only [fit]
  generalize f_X11_isCell (nI s) 0 a = y0
  generalize f_X11_isCell (nI s) 1 b = y1
  generalize f_X11_isCell (nI s) 2 c = y2
  generalize f_X11_isCell (nI s) 3 d = y3
  by_cases w0 : y0 = 0
  · simp [w0]
  by_cases w1 : y1 = 0
  · simp [w0, w1]
  by_cases w2 : y2 = 0
  · simp [w0, w1, w2]
  by_cases w3 : y3 = 0
  · simp [w0, w1, w2, w3]
  by_cases z1 : (RR s).length < 12 <;> by_cases z2 : s < 2 <;> by_cases z3 : m 4 s = nI 60 <;> by_cases z4 : fst (RR s) a = none <;> simp [rm, z1, z2, z3, z4, w0, w1, w2, w3]
theorem add_call (hfu : 5000 ≤ fu) (h : REL M m t u) (ht : t < 2 ^ 29) (hu : u < 2 ^ 29) : OUT kmI t u (f_X10_add fu p1 p2 p3 p4 p5 M) (f_X11_add fu p1 p2 p3 p4 p5 m) := by
  rcases idx 6 (by omega) p1 with h1 | ⟨s, hs, rfl⟩
  · refine OUT.same (k := 1) (v := 0) (p1 := 0) h (by omega) ?_ ?_ (fun hk => by omega)
    · simp only [f_X10_add, needI6, h1, if_true, bx_1, xer]
    · simp only [f_X11_add, jn_d, nm_d, isSource0, h1, if_true, up_s, le10, if_false]
      rfl
  have g1 := good (b := 6) (by omega) hs
  obtain ⟨RR, _, _, _, _, w1, _⟩ := id h
  obtain ⟨a1, a2, a3⟩ := canAdd_eq (a := p2) (b := p3) (c := p4) (d := p5) hfu w1 hs
  obtain ⟨b1, b2⟩ := hasRoom_eq (a := p2) hfu w1 hs
  have hrf := rowF (a := p2) (b := p3) (c := p4) (d := p5) hs
  by_cases hf : fit s p2 p3 p4 p5
  · have hrf' : ¬ f_X10_rowFits (f_X10_storeOf (nI s)) p2 p3 p4 p5 = 0 := fun z => (hrf ▸ z) hf
    by_cases hr : rm m RR s p2
    · have hr' : rm (up m 0 0 0) RR s p2 := by
        refine ⟨hr.1, ?_, hr.2.2⟩
        rw [up_n (by omega)]; exact hr.2.1
      obtain ⟨N, n, e1, e2, e3, e4, e5, _⟩ := add2 (fu := fu) hfu hs (w1.up0 0) ht hu (fit_canA hs hf hr')
      refine ⟨0, (addR (up m 0 0 0) s p2 p3 p4 p5).1, N, (addR (up m 0 0 0) s p2 p3 p4 p5).1, n, t, u + 1, ?_, ?_, ?_, fun _ => rfl, by decide, Nat.le_refl _, by omega, by omega, by omega, (h.up0 0).wr e3 e4 e5⟩
      · simp only [f_X10_add, needI6, g1, if_false, bx_0, f_X10_needArgument, hrf', b1 hr, bd_some, f_X10_needState, i10, e1, bm_some]
      · simp only [f_X11_add, jn_d, nm_d, isSource0, g1, if_false, a2 hf hr, bd_some, up_s, Int32.le_refl, if_true, e2, bm_some]
      · rw [e5.2.1 0 (by omega) (by omega) (by omega), up_s]; rfl
    · refine OUT.same (k := 3) (v := 0) (p1 := 0) h (by omega) ?_ ?_ (fun hk => by omega)
      · simp only [f_X10_add, needI6, g1, if_false, bx_0, f_X10_needArgument, hrf', b2 hr, bd_some, f_X10_needState, if_true, bx_3, xer]
      · simp only [f_X11_add, jn_d, nm_d, isSource0, g1, if_false, a3 hf hr, bd_some, up_s, le30]
        rfl
  · have hrf' : f_X10_rowFits (f_X10_storeOf (nI s)) p2 p3 p4 p5 = 0 := hrf ▸ hf
    refine OUT.same (k := 2) (v := 0) (p1 := 0) h (by omega) ?_ ?_ (fun hk => by omega)
    · simp only [f_X10_add, needI6, g1, if_false, bx_0, f_X10_needArgument, hrf', if_true, bx_2, xer]
    · simp only [f_X11_add, jn_d, nm_d, isSource0, g1, if_false, a1 hf, bd_some, up_s, le20]
      rfl
end AddCall
