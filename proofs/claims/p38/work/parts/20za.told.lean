/-! ===== all that is told ===== -/
def TS (M m M0 m0 : Mem) (t u : Nat) : Prop := INV M m t u ∧ (∀ a, 142 ≤ a → M a = M0 a) ∧ EQ0 m m0
section ToldL
variable {fu t u i j s x c k nS nL nC nO : Nat} {M m N n M0 m0 : Mem} {RR : Nat → List Row} {R R' : List Row} {r : Row} {v w : Int32} {p1 p2 p3 : Int32}
theorem RM_inj (h : RM m s R) (h' : RM m s R') : R = R' := by
  have hl : R.length = R'.length := (nI_eq (by have := h.2.1; omega) (by have := h'.2.1; omega)).mp (h.1.symm.trans h'.1)
  apply List.ext_getElem?
  intro i
  by_cases hi : i < R.length
  · obtain ⟨r, hr⟩ := gl_some (R := R) hi
    obtain ⟨r', hr'⟩ := gl_some (R := R') (i := i) (by omega)
    rw [hr, hr']
    obtain ⟨a1, a2⟩ := h.2.2 i r hr
    obtain ⟨b1, b2⟩ := h'.2.2 i r' hr'
    have e0 : r.1 = r'.1 := a1.symm.trans b1
    have e1 : ∀ c, c < 4 → cel r c = cel r' c := fun c hc => (a2 c hc).symm.trans (b2 c hc)
    have c0 := e1 0 (by omega)
    have c1 := e1 1 (by omega)
    have c2 := e1 2 (by omega)
    have c3 := e1 3 (by omega)
    simp [cel] at c0 c1 c2 c3
    obtain ⟨x0, x1, x2, x3, x4⟩ := r
    obtain ⟨y0, y1, y2, y3, y4⟩ := r'
    simp at e0 c0 c1 c2 c3
    simp [e0, c0, c1, c2, c3]
  · rw [List.getElem?_eq_none (by omega), List.getElem?_eq_none (by omega)]
/-- the rows: all three -/
theorem INV.rows (h : INV M m t u) : ∃ RR : Nat → List Row, ∀ s, s < 6 → RWl M s (RR s) ∧ RM m s (RR s) ∧ okW (RR s) ∧ SO (RR s) := by
  obtain ⟨⟨RR, nS, nL, nC, nO, _, _, hR, _⟩, hREL⟩ := h
  obtain ⟨RR', _, _, _, _, ⟨_, hS, hG, _⟩, _⟩ := hREL
  refine ⟨RR, fun s hs => ⟨(hR s hs).1, (hR s hs).2.1, (hR s hs).2.2, ?_⟩⟩
  rw [RM_inj (hR s hs).2.1 (hS s hs).2]
  exact (hG s hs).1
theorem xcount (hs : s < 6) : f_X11_count fu (nI s) m = some (m 1 s, up m 0 0 0) := by
  have g1 := good (b := 6) (by omega) hs
  simp (disch := omega) only [f_X11_count, isSource0, g1, if_false, nm_d, up_s, Int32.le_refl, if_true, inb_nI, grd_true, nI_clamp, up_n]
theorem xcountE (h : p1 < 0 ∨ nI 6 ≤ p1) : f_X11_count fu p1 m = some (0, up m 0 0 1) := by
  simp only [f_X11_count, isSource0, h, if_true, nm_d, up_s, le10, if_false]
theorem xsize (hs : s < 6) : f_X11_size fu (nI s) m = some (m 18 s, up m 0 0 0) := by
  have g1 := good (b := 6) (by omega) hs
  simp (disch := omega) only [f_X11_size, isSource0, g1, if_false, nm_d, up_s, Int32.le_refl, if_true, inb_nI, grd_true, nI_clamp, up_n]
theorem xsizeE (h : p1 < 0 ∨ nI 6 ≤ p1) : f_X11_size fu p1 m = some (0, up m 0 0 1) := by
  simp only [f_X11_size, isSource0, h, if_true, nm_d, up_s, le10, if_false]
theorem xcellE0 (h : p1 < 0 ∨ nI 6 ≤ p1) : f_X11_cell fu p1 p2 p3 m = some (0, up m 0 0 1) := by
  simp only [f_X11_cell, jn_d, nm_d, isSource0, h, if_true, up_s, le10, if_false]
theorem xcellE1 (hfu : 5000 ≤ fu) (hs : s < 6) (hR : RM m s R) (hO : SO R) (h : p3 < 0 ∨ nI (cs s) ≤ p3) : f_X11_cell fu (nI s) p2 p3 m = some (0, up m 0 0 1) := by
  have g1 := good (b := 6) (by omega) hs
  have ep := mplace_eq (fu := fu) (m := p2) hfu hR hs hO.nd
  simp only [f_X11_cell, jn_d, nm_d, isSource0, g1, if_false, ep, bd_some, isCol0 hs, h, if_true, ite_self, up_s, le10]
theorem xcellE2 (hfu : 5000 ≤ fu) (hs : s < 6) (hR : RM m s R) (hO : SO R) (h : fst R p2 = none) : f_X11_cell fu (nI s) p2 p3 m = some (0, up m 0 0 1) := by
  have g1 := good (b := 6) (by omega) hs
  have ep := mplace_eq (fu := fu) (m := p2) hfu hR hs hO.nd
  have eo := oI_m1 (o := fst R p2) (fst_b hR.2.1)
  rw [h] at ep eo
  simp only [f_X11_cell, jn_d, nm_d, isSource0, g1, if_false, ep, bd_some, eo, if_true, up_s, le10]
theorem xcell (hfu : 5000 ≤ fu) (hs : s < 6) (hc : c < cs s) (hR : RM m s R) (hO : SO R) (hr : R[k]? = some r) : f_X11_cell fu (nI s) r.1 (nI c) m = some (cel r c, up m 0 0 0) := by
  have g1 := good (b := 6) (by omega) hs
  have h4 := cs_le (s := s)
  have hcol := isCol hs hc
  have hk := gl_lt hr
  have h12 := hR.2.1
  have hf := fst_of hO.nd hr
  have ep := mplace_eq (fu := fu) (m := r.1) hfu hR hs hO.nd
  have eo := oI_m1 (o := fst R r.1) (fst_b hR.2.1)
  rw [hf] at ep eo
  have hp' : (some k = none) = False := eq_false (by simp)
  have hR' : RM (up m 0 0 0) s R := hR.cg (by rw [up_n (by omega)]) (up_n (by omega)) (up_n (by omega))
  have ep' : f_X11_placeOf fu (nI s) r.1 (up m 0 0 0) = some (nI k) := by
    rw [mplace_eq hfu hR' hs hO.nd, hf]; rfl
  have ei : 4 * (12 * nI s + nI k) + nI c = nI (4 * (12 * s + k) + c) := by
    rw [show (4 : Int32) = nI 4 from rfl, show (12 : Int32) = nI 12 from rfl, pk_mul, nI_add, pk_mul, nI_add]
  have hM := hR.cell hr (show c < 4 by omega)
  simp (disch := omega) only [f_X11_cell, jn_d, nm_d, isSource0, g1, if_false, ep, bd_some, eo, hp', hcol, up_s, Int32.le_refl, if_true, ep', ei, inb_nI, grd_true, nI_clamp, up_n, hM]
theorem TS.cl {km : Nat → Nat} {f : Option XR} {g : Option (Int32 × Mem)} {cs : List Nat} {k0 : Nat} (h : TS M m M0 m0 t u) (hO : OUT km t u f g) (hg : g = some (w, up m 0 0 (nI (km k0)))) (hinj : ∀ k, k ≤ 3 → km k ≤ 3 → (km k = 0 → k = 0) → km k = km k0 → k = k0) (h3 : km k0 ≤ 3) (hcs : k0 = 0 ∨ k0 ∈ cs) (ht : t < 2 ^ 29) : ∃ M' m', wr cs f M = some (if k0 = 0 then w else ek k0, M') ∧ TS M' m' M0 m0 t u := by
  obtain ⟨M', a1, a2, a3⟩ := eCall (k0 := k0) (cs := cs) h.1 hO hg .up0 up_s hinj h3 hcs ht
  exact ⟨M', _, a1, a2, fun a ha => by rw [a3 a ha]; exact h.2.1 a ha, EQ0.up0.trans h.2.2⟩
theorem TS.rows (h : TS M m M0 m0 t u) (hR : RWl M0 s R ∧ RM m0 s R) : RWl M s R ∧ RM m s R := ⟨hR.1.cg2 (h.2.1 143 (by omega)) (h.2.1 142 (by omega)), hR.2.cg (by rw [h.2.2.1 1 (by omega)]) (h.2.2.1 2 (by omega)) (h.2.2.1 3 (by omega))⟩
theorem tl69 {k115 : Mem → Option (Int32 × Mem)} (hfu : 5000 ≤ fu) (ht : t < 2 ^ 29) (hs : s < 6) (hR : RWl M0 s R ∧ RM m0 s R) (hk : okW R) (hO : SO R) (hr : R[k]? = some r) : ∀ d c n (M m : Mem), c + d = cs s → d < n → TS M m M0 m0 t u → ∃ M' m', f_L_isTold_L69 fu (nI s) (nI k) r.1 k115 n (nI c) M = k115 M' ∧ TS M' m' M0 m0 t u := by
  have h4 := cs_le (s := s)
  have hkl := gl_lt hr
  have h10 := hR.1.2.1
  intro d
  induction d with
  | zero =>
    intro c n M m h1 h2 h3
    obtain ⟨n, rfl⟩ := fu1 h2
    obtain rfl : c = cs s := by omega
    refine ⟨M, m, ?_, h3⟩
    simp (disch := omega) only [f_L_isTold_L69, lcol hs, nI_leI, Nat.le_refl, if_true]
  | succ d ih =>
    intro c n M m h1 h2 h3
    obtain ⟨n, rfl⟩ := fu1 h2
    have h5 : ¬ cs s ≤ c := by omega
    obtain ⟨M1, m1, a1, a2⟩ := h3.cl (k0 := 0) (cs := [1]) (cell_call (p1 := nI s) (p2 := r.1) (p3 := nI c) hfu h3.1.2) (xcell hfu hs (by omega) (h3.rows hR).2 hO hr) (by decide) (by decide) (by decide) ht
    have a1' : f_L_cellOf fu (nI s) r.1 (nI c) M = some (cel r c, M1) := a1
    have e1 : (10 : Int32) * nI s + nI k = nI (10 * s + k) := by rw [show (10 : Int32) = nI 10 from rfl, pk_mul, nI_add]
    obtain ⟨M2, m2, g1, g2⟩ := ih (c + 1) n M1 m1 (by omega) (by omega) a2
    refine ⟨M2, m2, ?_, g2⟩
    rw [← g1]
    have e2 := atL (a2.rows hR).1 hk hr (show c < 4 by omega)
    simp (disch := omega) only [f_L_isTold_L69, lcol hs, nI_leI, h5, if_false, a1', bm_some, e1, inb_nI, grd_true, nI_clamp, e2, if_true, nm_d, nI_1]
theorem tl42 {k142 : Mem → Option (Int32 × Mem)} (hfu : 5000 ≤ fu) (ht : t < 2 ^ 29) (hs : s < 6) (hR : RWl M0 s R ∧ RM m0 s R) (hk : okW R) (hO : SO R) : ∀ d k n (M m : Mem), k + d = R.length → d < n → TS M m M0 m0 t u → ∃ M' m', f_L_isTold_L42 fu (nI s) k142 n (nI k) M = k142 M' ∧ TS M' m' M0 m0 t u := by
  have h4 := cs_le (s := s)
  have h10 := hR.1.2.1
  intro d
  induction d with
  | zero =>
    intro k n M m h1 h2 h3
    obtain ⟨n, rfl⟩ := fu1 h2
    obtain rfl : k = R.length := by omega
    refine ⟨M, m, ?_, h3⟩
    simp (disch := omega) only [f_L_isTold_L42, inb_nI, grd_true, nI_clamp, (h3.rows hR).1.1, nI_leI, Nat.le_refl, if_true]
  | succ d ih =>
    intro k n M m h1 h2 h3
    obtain ⟨n, rfl⟩ := fu1 h2
    have h5 : ¬ R.length ≤ k := by omega
    obtain ⟨r, hr⟩ := gl_some (R := R) (i := k) (by omega)
    have e1 : (10 : Int32) * nI s + nI k = nI (10 * s + k) := by rw [show (10 : Int32) = nI 10 from rfl, pk_mul, nI_add]
    have e2 := markL (h3.rows hR).1 hk hr
    obtain ⟨M1, m1, a1, a2⟩ := tl69 (fu := fu) (k := k) (k115 := fun (M_108 : Mem) => bm (f_L_cellOf fu (nI s) r.1 (f_L_columns (nI s)) M_108) (fun r_111 M_112 => (if r_111 = (-7100) then nm (nI k + 1) (fun x8_114 => f_L_isTold_L42 fu (nI s) k142 n x8_114 M_112) else some ((0 : Int32), M_112)))) hfu ht hs hR hk hO hr (cs s) 0 5 M m (by omega) (by omega) h3
    obtain ⟨M2, m2, b1, b2⟩ := a2.cl (k0 := 1) (cs := [1]) (cell_call (p1 := nI s) (p2 := r.1) (p3 := nI (cs s)) hfu a2.1.2) (xcellE1 hfu hs (a2.rows hR).2 hO (Or.inr (Int32.le_refl _))) (by decide) (by decide) (by decide) ht
    have b1' : f_L_cellOf fu (nI s) r.1 (nI (cs s)) M1 = some (-7100, M2) := b1
    obtain ⟨M3, m3, g1, g2⟩ := ih (k + 1) n M2 m2 (by omega) (by omega) b2
    refine ⟨M3, m3, ?_, g2⟩
    rw [← g1]
    simp (disch := omega) only [f_L_isTold_L42, inb_nI, grd_true, nI_clamp, (h3.rows hR).1.1, nI_leI, h5, if_false, e1, e2, nm_d, jn_d]
    refine Eq.trans a1 ?_
    rw [lcol hs, b1', bm_some, if_pos rfl, nm_d, nI_1]
theorem tl3 {k185 : Mem → Option (Int32 × Mem)} (hfu : 5000 ≤ fu) (ht : t < 2 ^ 29) (hR : ∀ s, s < 6 → RWl M0 s (RR s) ∧ RM m0 s (RR s) ∧ okW (RR s) ∧ SO (RR s)) (hZ : ∀ s, s < 6 → M0 153 s = m0 18 s) : ∀ d s n (M m : Mem), s + d = 6 → d < n → TS M m M0 m0 t u → ∃ M' m', f_L_isTold_L3 fu v k185 n (nI s) M = k185 M' ∧ TS M' m' M0 m0 t u := by
  intro d
  induction d with
  | zero =>
    intro s n M m h1 h2 h3
    obtain ⟨n, rfl⟩ := fu1 h2
    obtain rfl : s = 6 := by omega
    exact ⟨M, m, by simp only [f_L_isTold_L3]; rw [if_pos (show (6 : Int32) ≤ nI 6 by decide)], h3⟩
  | succ d ih =>
    intro s n M m h1 h2 h3
    obtain ⟨n, rfl⟩ := fu1 h2
    have hs : s < 6 := by omega
    have h5 : ¬ (6 : Int32) ≤ nI s := by rw [lit, nI_leI (by omega) (by omega)]; omega
    obtain ⟨r1, r2, r3, r4⟩ := hR s hs
    have h10 := r1.2.1
    obtain ⟨M1, m1, a1, a2⟩ := h3.cl (k0 := 0) (cs := [1]) (count_call (fu := fu) (p1 := nI s) h3.1.2) (xcount hs) (by decide) (by decide) (by decide) ht
    have a1' : f_L_count fu (nI s) M = some (m 1 s, M1) := a1
    have e1 : m 1 s = M1 143 s := by rw [(a2.rows ⟨r1, r2⟩).1.1]; exact (h3.rows ⟨r1, r2⟩).2.1
    obtain ⟨M2, m2, b1, b2⟩ := a2.cl (k0 := 0) (cs := [1]) (size_call (fu := fu) (p1 := nI s) a2.1.2) (xsize hs) (by decide) (by decide) (by decide) ht
    have b1' : f_L_size fu (nI s) M1 = some (m1 18 s, M2) := b1
    have e2 : m1 18 s = M2 153 s := by rw [b2.2.1 153 (by omega), hZ s hs, a2.2.2.1 18 (by omega)]
    obtain ⟨mk, mk1, mk2⟩ := low_eq (fu := fu) (v := v) (n := 70) (M := M) (by omega) (by omega)
    have mk3 : ∀ X : Mem, f_L_low fu v 70 X = some (nI mk) := fun X => mk2
    obtain ⟨M3, m3, c1, c2⟩ := tl42 (fu := fu) (k142 := fun (M_88 : Mem) => bd (f_L_low fu v 70 M_88) (fun r_90 => bd (f_L_place fu (nI s) r_90 M_88) (fun r_92 => (if 0 ≤ r_92 then nm (nI s + 1) (fun x7_94 => f_L_isTold_L3 fu v k185 n x7_94 M_88) else bm (f_L_cellOf fu (nI s) r_90 0 M_88) (fun r_96 M_97 => (if r_96 = (-7100) then nm (nI s + 1) (fun x7_99 => f_L_isTold_L3 fu v k185 n x7_99 M_97) else some ((0 : Int32), M_97))))))) hfu ht hs ⟨r1, r2⟩ r3 r4 (RR s).length 0 12 M2 m2 (by omega) (by omega) b2
    have hmain : f_L_isTold_L3 fu v k185 (n + 1) (nI s) M = bd (f_L_low fu v 70 M3) (fun r_90 => bd (f_L_place fu (nI s) r_90 M3) (fun r_92 => (if 0 ≤ r_92 then nm (nI s + 1) (fun x7_94 => f_L_isTold_L3 fu v k185 n x7_94 M3) else bm (f_L_cellOf fu (nI s) r_90 0 M3) (fun r_96 M_97 => (if r_96 = (-7100) then nm (nI s + 1) (fun x7_99 => f_L_isTold_L3 fu v k185 n x7_99 M_97) else some ((0 : Int32), M_97)))))) := by
      simp (disch := omega) only [f_L_isTold_L3, if_neg h5, a1', bm_some, inb_nI, grd_true, nI_clamp, e1, if_true, b1', e2, jn_d]
      exact c1
    rw [hmain, mk3 M3, bd_some, lplace_eq hfu (c2.rows ⟨r1, r2⟩).1 hs r3, bd_some]
    by_cases hf : fst (RR s) (nI mk) = none
    · rw [if_neg (by rw [oIpos (by omega)]; simpa using hf)]
      obtain ⟨M4, m4, d1, d2⟩ := c2.cl (k0 := 1) (cs := [1]) (cell_call (p1 := nI s) (p2 := nI mk) (p3 := 0) hfu c2.1.2) (xcellE2 hfu hs (c2.rows ⟨r1, r2⟩).2 r4 hf) (by decide) (by decide) (by decide) ht
      have d1' : f_L_cellOf fu (nI s) (nI mk) 0 M3 = some (-7100, M4) := d1
      rw [d1', bm_some, if_pos rfl, nm_d, nI_1]
      exact ih (s + 1) n M4 m4 (by omega) (by omega) d2
    · rw [if_pos (by rw [oIpos (by omega)]; exact hf), nm_d, nI_1]
      exact ih (s + 1) n M3 m3 (by omega) (by omega) c2
theorem xans {k cols : Nat} (h75 : m 0 75 = nI k) (h76 : m 0 76 = nI cols) (hk : k ≤ 20) (hc : cols ≤ 3) (hx : x < k) (hcc : c < cols) : f_X11_answer fu (nI x) (nI c) m = some (m 56 (3 * x + c), up m 0 0 0) := by
  have i1 : (f_X11_in (nI x) 0 (nI k - 1) = 0) = False := by rw [inm1 (by omega)]; exact eq_false (good (by omega) hx)
  have i2 : (f_X11_in (nI c) 0 (nI cols - 1) = 0) = False := by rw [inm1 (by omega)]; exact eq_false (good (by omega) hcc)
  have e1 : (3 : Int32) * nI x + nI c = nI (3 * x + c) := by rw [show (3 : Int32) = nI 3 from rfl, pk_mul, nI_add]
  simp (disch := omega) only [f_X11_answer, h75, h76, i1, i2, if_false, nm_d, up_s, Int32.le_refl, if_true, e1, inb_nI, grd_true, nI_clamp, up_n]
theorem xansE {k cols : Nat} (h75 : m 0 75 = nI k) (h76 : m 0 76 = nI cols) (hk : k ≤ 20) (hc : cols ≤ 3) (h : (p1 < 0 ∨ nI k ≤ p1) ∨ (p2 < 0 ∨ nI cols ≤ p2)) : f_X11_answer fu p1 p2 m = some (0, up m 0 0 1) := by
  have i1 := inm1 (x := p1) (k := k) (by omega)
  have i2 := inm1 (x := p2) (k := cols) (by omega)
  simp only [f_X11_answer, h75, h76, i1, i2, nm_d, up_s]
  by_cases z : p1 < 0 ∨ nI k ≤ p1
  · simp only [z, if_true, le10, if_false]
  · simp only [z, h.resolve_left z, if_true, if_false, le10]
theorem tl201 {k cols : Nat} {k240 : Mem → Option (Int32 × Mem)} (ht : t < 2 ^ 29) (hL : M0 152 15 = nI k ∧ m0 0 75 = nI k ∧ M0 152 16 = nI cols ∧ m0 0 76 = nI cols) (hk : k ≤ 20) (hc : cols ≤ 3) (ha : ∀ x c, x < k → c < cols → M0 154 (3 * x + c) = m0 56 (3 * x + c)) (hx : x < k) : ∀ d c n (M m : Mem), c + d = cols → d < n → TS M m M0 m0 t u → ∃ M' m', f_L_isTold_L201 fu (nI x) k240 n (nI c) M = k240 M' ∧ TS M' m' M0 m0 t u := by
  intro d
  induction d with
  | zero =>
    intro c n M m h1 h2 h3
    obtain ⟨n, rfl⟩ := fu1 h2
    obtain rfl : c = cols := by omega
    refine ⟨M, m, ?_, h3⟩
    simp (disch := omega) only [f_L_isTold_L201, h3.2.1 152 (by omega), hL.2.2.1, nI_leI, Nat.le_refl, if_true]
  | succ d ih =>
    intro c n M m h1 h2 h3
    obtain ⟨n, rfl⟩ := fu1 h2
    have h5 : ¬ cols ≤ c := by omega
    obtain ⟨M1, m1, a1, a2⟩ := h3.cl (k0 := 0) (cs := [1]) (answer_call (fu := fu) (p1 := nI x) (p2 := nI c) h3.1.2) (xans (by rw [h3.2.2.2 75 (by omega)]; exact hL.2.1) (by rw [h3.2.2.2 76 (by omega)]; exact hL.2.2.2) hk hc hx (by omega)) (by decide) (by decide) (by decide) ht
    have a1' : f_L_answer fu (nI x) (nI c) M = some (m 56 (3 * x + c), M1) := a1
    have e1 : (3 : Int32) * nI x + nI c = nI (3 * x + c) := by rw [show (3 : Int32) = nI 3 from rfl, pk_mul, nI_add]
    have e2 : m 56 (3 * x + c) = M1 154 (3 * x + c) := by rw [a2.2.1 154 (by omega), h3.2.2.1 56 (by omega)]; exact (ha x c hx (by omega)).symm
    obtain ⟨M2, m2, g1, g2⟩ := ih (c + 1) n M1 m1 (by omega) (by omega) a2
    refine ⟨M2, m2, ?_, g2⟩
    rw [← g1]
    simp (disch := omega) only [f_L_isTold_L201, h3.2.1 152 (by omega), hL.2.2.1, nI_leI, h5, if_false, a1', bm_some, e1, inb_nI, grd_true, nI_clamp, e2, if_true, nm_d, nI_1]
theorem tl188 {k cols : Nat} {k246 : Mem → Option (Int32 × Mem)} (ht : t < 2 ^ 29) (hL : M0 152 15 = nI k ∧ m0 0 75 = nI k ∧ M0 152 16 = nI cols ∧ m0 0 76 = nI cols) (hk : k ≤ 20) (hc : cols ≤ 3) (ha : ∀ x c, x < k → c < cols → M0 154 (3 * x + c) = m0 56 (3 * x + c)) : ∀ d x n (M m : Mem), x + d = k → d < n → TS M m M0 m0 t u → ∃ M' m', f_L_isTold_L188 fu k246 n (nI x) M = k246 M' ∧ TS M' m' M0 m0 t u := by
  intro d
  induction d with
  | zero =>
    intro x n M m h1 h2 h3
    obtain ⟨n, rfl⟩ := fu1 h2
    obtain rfl : x = k := by omega
    refine ⟨M, m, ?_, h3⟩
    simp (disch := omega) only [f_L_isTold_L188, h3.2.1 152 (by omega), hL.1, nI_leI, Nat.le_refl, if_true]
  | succ d ih =>
    intro x n M m h1 h2 h3
    obtain ⟨n, rfl⟩ := fu1 h2
    have h5 : ¬ k ≤ x := by omega
    obtain ⟨M1, m1, a1, a2⟩ := tl201 (fu := fu) (k240 := fun (M_63 : Mem) => nm (nI x + 1) (fun x7_64 => f_L_isTold_L188 fu k246 n x7_64 M_63)) ht hL hk hc ha (show x < k by omega) cols 0 4 M m (by omega) (by omega) h3
    obtain ⟨M2, m2, g1, g2⟩ := ih (x + 1) n M1 m1 (by omega) (by omega) a2
    refine ⟨M2, m2, ?_, g2⟩
    rw [← g1]
    simp (disch := omega) only [f_L_isTold_L188, h3.2.1 152 (by omega), hL.1, nI_leI, h5, if_false, jn_d]
    refine Eq.trans a1 ?_
    rw [nm_d, nI_1]
theorem told_ok (hfu : 5000 ≤ fu) (hI : INV M0 m0 t u) (ht : t < 2 ^ 29) : ∃ M' m', f_L_isTold fu v M0 = some (1, M') ∧ TS M' m' M0 m0 t u := by
  obtain ⟨RR, hR⟩ := hI.rows
  obtain ⟨RRl, nS, nL, nC, nO, ⟨hT, _⟩, ⟨_, hDG⟩, _, ⟨hZ, _⟩, h2, ⟨k, cols, k1, k2, hL, ha, l11, l12, l7, l8, l9, _⟩, _⟩ := id hI.1
  have T0 : TS M0 m0 M0 m0 t u := ⟨hI, fun _ _ => rfl, .rfl⟩
  let kZ : Mem → Option (Int32 × Mem) := fun (M_4 : Mem) => bm (f_L_answer fu (M_4 152 15) 0 M_4) (fun r_6 M_7 => (if r_6 = (-7100) then bm (f_L_answer fu 0 (M_7 152 16) M_7) (fun r_10 M_11 => (if r_10 = (-7100) then bm (f_L_answer fu (-1) 0 M_11) (fun r_14 M_15 => (if r_14 = (-7100) then bd (f_X10_answers fu M_15) (fun r_18 => (if r_18 = (M_15 152 15) then bd (f_X10_missing fu M_15) (fun r_21 => (if r_21 = (M_15 152 11) then bd (f_X10_claims fu M_15) (fun r_24 => (if r_24 = (M_15 152 12) then bd (f_X10_cost fu M_15) (fun r_27 => (if r_27 = (M_15 152 7) then bd (f_X10_attempts fu M_15) (fun r_30 => (if r_30 = (M_15 152 8) then bd (f_X10_shipped fu M_15) (fun r_33 => (if r_33 = (M_15 152 9) then bd (f_X10_losses fu M_15) (fun r_36 => (if r_36 = (M_15 152 2) then bd (f_X10_moment fu M_15) (fun r_39 => (if r_39 = (M_15 152 0) then bd (f_X10_now fu M_15) (fun r_42 => (if r_42 = (M_15 152 1) then bd (f_X10_entries fu M_15) (fun r_45 => (if r_45 = (M_15 152 3) then bm (f_L_count fu 6 M_15) (fun r_48 M_49 => (if r_48 = (-7100) then bm (f_L_size fu (-1) M_49) (fun r_52 M_53 => (if r_52 = (-7100) then bm (f_L_cellOf fu 6 0 0 M_53) (fun r_56 M_57 => (if r_56 = (-7100) then some ((1 : Int32), M_57) else some ((0 : Int32), M_57))) else some ((0 : Int32), M_53))) else some ((0 : Int32), M_49))) else some ((0 : Int32), M_15))) else some ((0 : Int32), M_15))) else some ((0 : Int32), M_15))) else some ((0 : Int32), M_15))) else some ((0 : Int32), M_15))) else some ((0 : Int32), M_15))) else some ((0 : Int32), M_15))) else some ((0 : Int32), M_15))) else some ((0 : Int32), M_15))) else some ((0 : Int32), M_15))) else some ((0 : Int32), M_15))) else some ((0 : Int32), M_11))) else some ((0 : Int32), M_7)))
  obtain ⟨M1, m1, a1, a2⟩ := tl3 (fu := fu) (v := v) (k185 := fun M_2 => f_L_isTold_L188 fu kZ 21 0 M_2) hfu ht hR (fun s hs => (hZ s hs).1) 6 0 7 M0 m0 (by omega) (by omega) T0
  obtain ⟨M2, m2, b1, b2⟩ := tl188 (fu := fu) (k246 := kZ) ht hL k1 k2 ha k 0 21 M1 m1 (by omega) (by omega) a2
  have e75 : ∀ {X Y : Mem}, TS X Y M0 m0 t u → Y 0 75 = nI k := fun h => by rw [h.2.2.2 75 (by omega)]; exact hL.2.1
  have e76 : ∀ {X Y : Mem}, TS X Y M0 m0 t u → Y 0 76 = nI cols := fun h => by rw [h.2.2.2 76 (by omega)]; exact hL.2.2.2
  obtain ⟨M3, m3, c1, c2⟩ := b2.cl (k0 := 1) (cs := [1]) (answer_call (fu := fu) (p1 := nI k) (p2 := 0) b2.1.2) (xansE (e75 b2) (e76 b2) k1 k2 (Or.inl (Or.inr (Int32.le_refl _)))) (by decide) (by decide) (by decide) ht
  have c1' : f_L_answer fu (nI k) 0 M2 = some (-7100, M3) := c1
  obtain ⟨M4, m4, d1, d2⟩ := c2.cl (k0 := 1) (cs := [1]) (answer_call (fu := fu) (p1 := 0) (p2 := nI cols) c2.1.2) (xansE (e75 c2) (e76 c2) k1 k2 (Or.inr (Or.inr (Int32.le_refl _)))) (by decide) (by decide) (by decide) ht
  have d1' : f_L_answer fu 0 (nI cols) M3 = some (-7100, M4) := d1
  obtain ⟨M5, m5, f1, f2⟩ := d2.cl (k0 := 1) (cs := [1]) (answer_call (fu := fu) (p1 := -1) (p2 := 0) d2.1.2) (xansE (e75 d2) (e76 d2) k1 k2 (Or.inl (Or.inl (by decide)))) (by decide) (by decide) (by decide) ht
  have f1' : f_L_answer fu (-1) 0 M4 = some (-7100, M5) := f1
  obtain ⟨⟨v1, n1, y1, w1, _⟩, ⟨v2, n2, y2, w2, _⟩, ⟨v3, n3, y3, w3, _⟩, ⟨v4, n4, y4, w4, _⟩, ⟨v5, n5, y5, w5, _⟩, ⟨v6, n6, y6, w6, _⟩, ⟨v7, n7, y7, w7, _⟩, ⟨v8, n8, y8, w8, _⟩, ⟨v9, n9, y9, w9, _⟩, ⟨v10, n10, y10, w10, _⟩⟩ := gets (fu := fu) f2.1.2
  have gv : ∀ {y : Int32} {q : Mem} {j : Nat} {g : Option (Int32 × Mem)}, g = some (y, q) → g = some ((up m5 0 0 0) 0 j, up m5 0 0 0) → j ≠ 0 → y = m0 0 j := fun h1 h2' hj => by
    rw [h1] at h2'
    have := (Prod.mk.inj (Option.some.inj h2')).1
    rw [this, up_m hj, f2.2.2.2 _ hj]
  have q1 := gv (j := 6) w1 rfl (by omega)
  have q2 := gv (j := 7) w2 rfl (by omega)
  have q3 := gv (j := 8) w3 rfl (by omega)
  have q4 := gv (j := 75) w4 rfl (by omega)
  have q5 := gv (j := 78) w5 rfl (by omega)
  have q6 := gv (j := 79) w6 rfl (by omega)
  have q7 := gv (j := 80) w7 rfl (by omega)
  have q8 := gv (j := 81) w8 rfl (by omega)
  have q9 := gv (j := 82) w9 rfl (by omega)
  have q10 := gv (j := 39) w10 rfl (by omega)
  obtain ⟨M6, m6, g1, g2⟩ := f2.cl (k0 := 1) (cs := [1]) (count_call (fu := fu) (p1 := 6) f2.1.2) (xcountE (Or.inr (by decide))) (by decide) (by decide) (by decide) ht
  have g1' : f_L_count fu 6 M5 = some (-7100, M6) := g1
  obtain ⟨M7, m7, h1, h2'⟩ := g2.cl (k0 := 1) (cs := [1]) (size_call (fu := fu) (p1 := -1) g2.1.2) (xsizeE (Or.inl (by decide))) (by decide) (by decide) (by decide) ht
  have h1' : f_L_size fu (-1) M6 = some (-7100, M7) := h1
  obtain ⟨M8, m8, i1, i2⟩ := h2'.cl (k0 := 1) (cs := [1]) (cell_call (p1 := 6) (p2 := 0) (p3 := 0) hfu h2'.1.2) (xcellE0 (Or.inr (by decide))) (by decide) (by decide) (by decide) ht
  have i1' : f_L_cellOf fu 6 0 0 M7 = some (-7100, M8) := i1
  refine ⟨M8, m8, ?_, i2⟩
  have eM : ∀ {X Y : Mem}, TS X Y M0 m0 t u → X 152 = M0 152 := fun h => h.2.1 152 (by omega)
  have hent : M0 152 3 = m0 0 39 := by
    obtain ⟨_, L, sr, kt, z1, z2, z3, _⟩ := hT
    rw [z3.1, z1.1]
  have hu := hT.tl.gt.1
  refine Eq.trans (show f_L_isTold fu v M0 = _ from a1) (Eq.trans b1 ?_)
  show kZ M2 = _
  simp only [kZ, eM b2, eM c2, eM f2, hL.1, hL.2.2.1, c1', d1', f1', bm_some, if_true, y4, y5, y6, y7, y8, y9, y1, y2, y3, y10, bd_some, q1, q2, q3, q4, q5, q6, q7, q8, q9, q10, hL.2.1, l11, l12, l7, l8, l9, h2, hu, hent, hT.1.1, hT.1.2.1, hT.1.2.2, g1', h1', i1']
end ToldL
