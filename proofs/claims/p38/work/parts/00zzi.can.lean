/-! ===== a step of a bundle: can it be done ===== -/
def CAN (m : Mem) (A : Nat → List Row) (s j : Nat) : Prop := (m 58 j = 0 ∧ fit s (m 60 j) (m 61 j) (m 62 j) (m 63 j) ∧ rm m A s (m 60 j)) ∨ (m 58 j = 1 ∧ ∃ p r c, fst (A s) (m 60 j) = some p ∧ (A s)[p]? = some r ∧ m 61 j = nI c ∧ c < cs s ∧ ¬ (¬ s < 2 ∧ c = 0 ∨ f_X11_isCell (nI s) (nI c) (m 62 j) = 0)) ∨ (m 58 j = 2 ∧ ∃ p r, fst (A s) (m 60 j) = some p ∧ (A s)[p]? = some r)
section Can
variable {fu nS nL nC nO i j s t u e p c k : Nat} {M m N n : Mem} {RR RR' A B : Nat → List Row} {R : List Row} {r : Row} {v x p1 p2 p3 p4 p5 p6 : Int32}
theorem canC0 (hj : j < 4) (k124 : M 124 j = nI s) (z0 : (M 123 j = 0) = True) : f_X2_canStep fu (nI j) M = if f_X10_rowFits (f_X10_storeOf (nI s)) (M 125 (4 * j)) (M 125 (4 * j + 1)) (M 125 (4 * j + 2)) (M 125 (4 * j + 3)) = 0 then some 0 else bd (f_X7_hasRoom fu (nI s) (M 125 (4 * j)) M) (fun r_12 => (if r_12 = 0 then some 0 else some 1)) := by
  obtain ⟨e4, e5, e51, e52, e53, e6⟩ := e4m (j := j)
  simp (disch := omega) only [f_X2_canStep, inb_nI, grd_true, nI_clamp, nm_d, k124, z0, if_true, e6, e51, e52, e53]
theorem canC1 (hj : j < 4) (hs : s < 6) (k124 : M 124 j = nI s) (z0 : (M 123 j = 0) = False) (z1 : (M 123 j = 1) = True) : f_X2_canStep fu (nI j) M = bd (f_X6_hasMark fu (62 + 3 * s) (M 125 (4 * j)) M) (fun r_19 => (if r_19 = 0 then some 0 else (if (f_X10_isIn (M 125 (4 * j + 1)) 0 ((f_X10_columnsIn (f_X10_storeOf (nI s))) - 1)) = 0 then some 0 else (if (f_X10_mayChangeTo (f_X10_storeOf (nI s)) (M 125 (4 * j + 1)) (M 125 (4 * j + 2))) = 0 then some 0 else some 1)))) := by
  obtain ⟨e4, e5, e51, e52, e53, e6⟩ := e4m (j := j)
  simp (disch := omega) only [f_X2_canStep, inb_nI, grd_true, nI_clamp, nm_d, k124, z0, z1, if_true, if_false, e6, e51, e52, e53, Nat.reduceAdd]
theorem canC2 (hj : j < 4) (hs : s < 6) (k124 : M 124 j = nI s) (z0 : (M 123 j = 0) = False) (z1 : (M 123 j = 1) = False) : f_X2_canStep fu (nI j) M = bd (f_X6_hasMark fu (62 + 3 * s) (M 125 (4 * j)) M) (fun r_29 => grd (isb r_29) (some r_29)) := by
  obtain ⟨e4, e5, e51, e52, e53, e6⟩ := e4m (j := j)
  simp (disch := omega) only [f_X2_canStep, inb_nI, grd_true, nI_clamp, nm_d, k124, z0, z1, if_true, if_false, e6, e51, e52, e53, Nat.reduceAdd]
theorem canM0 (hj : j < 4) (k59 : m 59 j = nI s) (z0 : (m 58 j = 0) = True) : f_X11_canStep fu (nI j) m = bd (f_X11_canAdd fu (nI s) (m 60 j) (m 61 j) (m 62 j) (m 63 j) m) (fun r_12 => (if r_12 = 0 then some 1 else some 0)) := by
  simp (disch := omega) only [f_X11_canStep, inb_nI, grd_true, nI_clamp, nm_d, k59, z0, if_true]
theorem canM1 (hj : j < 4) (k59 : m 59 j = nI s) (z0 : (m 58 j = 0) = False) (z1 : (m 58 j = 1) = True) : f_X11_canStep fu (nI j) m = bd (f_X11_canChange fu (nI s) (m 60 j) (m 61 j) (m 62 j) m) (fun r_9 => (if r_9 = 0 then some 1 else some 0)) := by
  simp (disch := omega) only [f_X11_canStep, inb_nI, grd_true, nI_clamp, nm_d, k59, z0, z1, if_true, if_false]
theorem canM2 (hj : j < 4) (k59 : m 59 j = nI s) (z0 : (m 58 j = 0) = False) (z1 : (m 58 j = 1) = False) : f_X11_canStep fu (nI j) m = bd (f_X11_placeOf fu (nI s) (m 60 j) m) (fun r_6 => (if r_6 = (-1) then some 0 else some 1)) := by
  simp (disch := omega) only [f_X11_canStep, inb_nI, grd_true, nI_clamp, nm_d, k59, z0, z1, if_true, if_false]
theorem n30 : ((3 : Int32) = 0) = False := by decide
theorem k0z {y : Int32} (h : y = 0) : (y = 0) = True := eq_true h
theorem k1z {y : Int32} (h : y = 1) : (y = 0) = False ∧ (y = 1) = True := by subst h; exact ⟨n10, eq_self 1⟩
theorem k2z {y : Int32} (h : y = 2) : (y = 0) = False ∧ (y = 1) = False := by subst h; exact ⟨n20, n21⟩
theorem can2 (hfu : 5000 ≤ fu) (hW : WR M m t u A) (hj : j < 4) (hs : s < 6) (k59 : m 59 j = nI s) (k124 : M 124 j = nI s) (k123 : M 123 j = m 58 j) (kd : m 58 j = 0 ∨ m 58 j = 1 ∨ m 58 j = 2) (q0 : M 125 (4 * j) = m 60 j) (q1 : M 125 (4 * j + 1) = m 61 j) (q2 : M 125 (4 * j + 2) = m 62 j) (q3 : M 125 (4 * j + 3) = m 63 j) : (CAN m A s j ∧ f_X2_canStep fu (nI j) M = some 1 ∧ f_X11_canStep fu (nI j) m = some 1) ∨ (f_X2_canStep fu (nI j) M = some 0 ∧ f_X11_canStep fu (nI j) m = some 0) := by
  obtain ⟨ep, eo⟩ := hW.place (v := m 60 j) hfu hs
  have hh := hasMark_eq (m := m 60 j) hfu (hW.2.1 s hs).1
  have h4 := cs_le (s := s)
  rcases kd with kd | kd | kd
  · have z := k0z kd
    rw [canC0 hj k124 (by rw [k123]; exact z), canM0 hj k59 z, q0, q1, q2, q3]
    obtain ⟨a1, a2, a3⟩ := canAdd_eq (a := m 60 j) (b := m 61 j) (c := m 62 j) (d := m 63 j) hfu hW hs
    obtain ⟨b1, b2⟩ := hasRoom_eq (a := m 60 j) hfu hW hs
    have hrf := rowF (a := m 60 j) (b := m 61 j) (c := m 62 j) (d := m 63 j) hs
    by_cases hf : fit s (m 60 j) (m 61 j) (m 62 j) (m 63 j)
    · have hrf' : ¬ f_X10_rowFits (f_X10_storeOf (nI s)) (m 60 j) (m 61 j) (m 62 j) (m 63 j) = 0 := fun z => (hrf ▸ z) hf
      by_cases hr : rm m A s (m 60 j)
      · refine Or.inl ⟨Or.inl ⟨kd, hf, hr⟩, ?_, ?_⟩
        · simp only [hrf', if_false, b1 hr, bd_some, n10]
        · simp only [a2 hf hr, bd_some, if_true]
      · refine Or.inr ⟨?_, ?_⟩
        · simp only [hrf', if_false, b2 hr, bd_some, if_true]
        · simp only [a3 hf hr, bd_some, n30, if_false]
    · have hrf' : f_X10_rowFits (f_X10_storeOf (nI s)) (m 60 j) (m 61 j) (m 62 j) (m 63 j) = 0 := hrf ▸ hf
      refine Or.inr ⟨?_, ?_⟩
      · simp only [hrf', if_true]
      · simp only [a1 hf, bd_some, n20, if_false]
  · obtain ⟨z, z'⟩ := k1z kd
    rw [canC1 hj hs k124 (by rw [k123]; exact z) (by rw [k123]; exact z'), canM1 hj k59 z z', q0, q1, q2, hh, bd_some]
    cases hp : fst (A s) (m 60 j) with
    | none =>
      rw [hp] at ep eo
      refine Or.inr ⟨by rw [if_pos rfl, if_pos rfl], ?_⟩
      simp only [f_X11_canChange, ep, bd_some, eo, if_true, n10, if_false]
    | some p =>
      rw [hp] at ep eo
      obtain ⟨r, hr, _⟩ := fst_lt hp
      have hp' : ¬ (some p = none) := by simp
      rw [if_neg hp']
      rw [if_neg (show ¬ (1 : Int32) = 0 from by decide)]
      have hin : (f_X10_isIn (m 61 j) 0 (nI (cs s) - 1) = 0) = (m 61 j < 0 ∨ nI (cs s) ≤ m 61 j) := inm1 (by omega)
      rw [colF hs]
      rcases idx (cs s) (by omega) (m 61 j) with h2 | ⟨c, hc, ec⟩
      · refine Or.inr ⟨by rw [if_pos (hin ▸ h2)], ?_⟩
        have hn : ¬ (oI (some p) = -1) := by rw [eo]; exact hp'
        simp only [f_X11_canChange, ep, bd_some, hn, if_false, isCol0 hs, h2, if_true, n10]
      · have hcan := canCh (x := m 62 j) hs hc ep eo
        rw [ec] at hin ⊢
        rw [hcan, bd_some, if_neg (fun y => good (b := cs s) (by omega) hc (hin ▸ y))]
        have hmay := mayCh (v := m 62 j) hs (show c < 4 by omega)
        by_cases hbad : ¬ s < 2 ∧ c = 0 ∨ f_X11_isCell (nI s) (nI c) (m 62 j) = 0
        · refine Or.inr ⟨by rw [if_pos (hmay ▸ hbad)], ?_⟩
          rw [if_pos hbad, if_neg (show ¬ (2 : Int32) = 0 from by decide)]
        · refine Or.inl ⟨Or.inr (Or.inl ⟨kd, p, r, c, hp, hr, ec, hc, hbad⟩), by rw [if_neg (fun y => hbad (hmay ▸ y))], ?_⟩
          rw [if_neg hbad, if_pos rfl]
  · obtain ⟨z, z'⟩ := k2z kd
    rw [canC2 hj hs k124 (by rw [k123]; exact z) (by rw [k123]; exact z'), canM2 hj k59 z z', q0, hh, bd_some, ep, bd_some]
    cases hp : fst (A s) (m 60 j) with
    | none =>
      rw [hp] at eo
      exact Or.inr ⟨by rw [if_pos rfl]; rfl, by rw [if_pos (eo ▸ rfl)]⟩
    | some p =>
      rw [hp] at eo
      obtain ⟨r, hr, _⟩ := fst_lt hp
      have hp' : ¬ (some p = none) := by simp
      exact Or.inl ⟨Or.inr (Or.inr ⟨kd, p, r, hp, hr⟩), by rw [if_neg hp']; rfl, by rw [if_neg (fun y => hp' (eo ▸ y))]⟩
end Can
