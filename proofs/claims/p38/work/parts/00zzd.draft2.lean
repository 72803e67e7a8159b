/-! ===== the draft: seats, links, conditions, outputs ===== -/
section Draft2
variable {fu nS nL nC nO i j s t u e p c k : Nat} {M m N n : Mem} {RR RR' : Nat → List Row} {R : List Row} {v x p1 p2 p3 p4 p5 p6 : Int32} {km : Nat → Nat} {f : Option XR} {g : Option (Int32 × Mem)}
theorem REL.dr {nS nL nC nO : Nat} (h : REL M m t u) (fC : ∀ a, a < 80 ∨ 89 < a → N a = M a) (fM : ∀ a, a ≠ 0 → a < 19 ∨ 29 < a → n a = m a) (f0 : ∀ j, j ≠ 0 → j < 22 ∨ 38 < j → n 0 j = m 0 j) (hD : DR N n) (hG : DG n nS nL nC nO) (h0 : ∀ j, j = 39 → n 0 j = m 0 j := by omega) : REL N n t u := by
  obtain ⟨RR, _, _, _, _, w1, w2, w3, w4, w5, w6, ⟨⟨k, cols, k1, k2, k3, k4, k5, k6, k7⟩, l2, l3, l4, l5, l6, p, p1, p2, p3, p4⟩, w8⟩ := h
  refine ⟨RR, nS, nL, nC, nO, w1.of (w1.1.cg (fun a z1 z2 z3 => fC a (by omega)) (f0 7 (by omega) (by omega)) (f0 8 (by omega) (by omega)) (f0 39 (by omega) (by omega)) (fun a z1 z2 => fM a (by omega) (by omega)) (fun a z1 z2 => fM a (by omega) (by omega))) (fun a z1 z2 z3 => fC a (by omega)) (fun a z1 z2 => fM a (by omega) (by omega)) (f0 6 (by omega) (by omega)), hD, hG, w4.cg (fC 59 (by omega)) (fM 18 (by omega) (by omega)), w5.cg (fC 54 (by omega)) (fM 17 (by omega) (by omega)), by rw [fC 121 (by omega), fM 48 (by omega) (by omega)]; exact w6, ⟨⟨k, cols, k1, k2, by rw [fC 90 (by omega)]; exact k3, by rw [f0 75 (by omega) (by omega)]; exact k4, by rw [fC 90 (by omega)]; exact k5, by rw [f0 76 (by omega) (by omega)]; exact k6, fun x c hx hc => by rw [fC 91 (by omega), fM 56 (by omega) (by omega)]; exact k7 x c hx hc⟩, ?_, ?_, ?_, ?_, ?_, p, p1, ?_, ?_, ?_⟩, w8.cg ⟨fun a z1 z2 => fC a (by omega), fun a z1 z2 => fM a (by omega) (by omega), f0 85 (by omega) (by omega)⟩⟩
  · rw [fC 90 (by omega), f0 78 (by omega) (by omega)]; exact l2
  · rw [fC 90 (by omega), f0 79 (by omega) (by omega)]; exact l3
  · rw [fC 90 (by omega), f0 80 (by omega) (by omega)]; exact l4
  · rw [fC 90 (by omega), f0 81 (by omega) (by omega)]; exact l5
  · rw [fC 90 (by omega), f0 82 (by omega) (by omega)]; exact l6
  · rw [fC 90 (by omega)]; exact p2
  · rw [f0 83 (by omega) (by omega)]; exact p3
  · rw [fC 93 (by omega), fC 94 (by omega), fM 57 (by omega) (by omega)]; exact p4
theorem m3 {q : Nat} (hq : q ≤ 3) : ((3 : Int32) ≤ nI q) = (q = 3) ∧ (nI q = 3) = (q = 3) := by
  rw [show (3 : Int32) = nI 3 from rfl, nI_leI (by omega) (by omega), nI_eq (by omega) (by omega)]
  exact ⟨propext (by omega), rfl⟩
theorem m4 {q : Nat} (hq : q ≤ 4) : ((4 : Int32) ≤ nI q) = (q = 4) ∧ (nI q = 4) = (q = 4) := by
  rw [show (4 : Int32) = nI 4 from rfl, nI_leI (by omega) (by omega), nI_eq (by omega) (by omega)]
  exact ⟨propext (by omega), rfl⟩
theorem p1m1 {q : Nat} : nI q + 1 = nI (q + 1) ∧ nI (q + 1) - 1 = nI q := by
  refine ⟨by rw [show (1 : Int32) = nI 1 from rfl, nI_add], by rw [show (1 : Int32) = nI 1 from rfl, pk_sub (by omega)]; rfl⟩
theorem seat_call (h : REL M m t u) : OUT kmS t u (f_X10_seat fu p1 M) (f_X11_seat fu p1 m) := by
  rcases idx 6 (by omega) p1 with h1 | ⟨s, hs, rfl⟩
  · refine OUT.same (k := 1) (v := 0) (p1 := 0) h (by omega) ?_ ?_ (fun hk => by omega)
    · simp only [f_X10_seat, needI6, h1, if_true, bx_1, xer]
    · simp only [f_X11_seat, nm_d, isSource0, h1, if_true, up_s, le10, if_false]
      rfl
  have g1 := good (b := 6) (by omega) hs
  obtain ⟨RR, nS, nL, nC, nO, w1, w2, w3, _⟩ := id h
  obtain ⟨⟨a1, a2⟩, ⟨b1, b2⟩, ⟨c1, c2⟩, ⟨d1, d2⟩, ⟨k, k1, k2, k3⟩, g, i1, l1, x1, o1⟩ := id w3
  obtain ⟨⟨r1, r2, r3, r4, r5, r6⟩, ⟨s1, s2, s3, s4, s5, s6, s7⟩, s8⟩ := id w2
  obtain ⟨q1, q2⟩ := m3 a2
  have r1' : M 80 9 = nI nS := by rw [r1, a1]
  by_cases hn : nS = 3
  · refine OUT.same (k := 3) (v := 0) (p1 := 0) h (by omega) ?_ ?_ (fun hk => by omega)
    · simp only [f_X10_seat, needI6, g1, if_false, bx_0, nm_d, r1', eq_true (q1 ▸ hn), if_true, f_X10_needState, bx_3, xer]
    · simp only [f_X11_seat, nm_d, isSource0, g1, if_false, a1, eq_true (q2 ▸ hn), if_true, up_s, le20]
      rfl
  · obtain ⟨e1, e2⟩ := p1m1 (q := nS)
    have hd : ∀ a, a ≠ 0 → a ≠ 19 → up (up (up m 0 0 0) 19 nS (nI s)) 0 22 (nI (nS + 1)) a = m a := fun a z1 z2 => by rw [up_n z1, up_n z2, up_n z1]
    have hd0 : ∀ j, j ≠ 0 → j ≠ 22 → up (up (up m 0 0 0) 19 nS (nI s)) 0 22 (nI (nS + 1)) 0 j = m 0 j := fun j z1 z2 => by rw [up_m z2, up_n (by omega), up_m z1]
    have h19 : up (up (up m 0 0 0) 19 nS (nI s)) 0 22 (nI (nS + 1)) 19 = upd (m 19) nS (nI s) := by rw [up_n (by omega), up_a, up_n (by omega)]
    have h22 : up (up (up m 0 0 0) 19 nS (nI s)) 0 22 (nI (nS + 1)) 0 22 = nI (nS + 1) := up_s
    have h00 : up (up (up m 0 0 0) 19 nS (nI s)) 0 22 (nI (nS + 1)) 0 0 = 0 := by rw [up_m (by omega), up_n (by omega), up_s]
    have eM : f_X11_seat fu (nI s) m = some (nI nS, up (up (up m 0 0 0) 19 nS (nI s)) 0 22 (nI (nS + 1))) := by
      simp (disch := omega) only [f_X11_seat, nm_d, isSource0, g1, if_false, a1, q2, hn, up_s, Int32.le_refl, if_true, up_m, up_n, inb_nI, grd_true, nI_clamp, e1, e2]
    generalize hm' : up (up (up m 0 0 0) 19 nS (nI s)) 0 22 (nI (nS + 1)) = m' at *
    refine ⟨0, nI nS, up (up M 81 nS (nI s)) 80 9 (nI (nS + 1)), nI nS, m', t, u, ?_, eM, h00, fun _ => rfl, by decide, Nat.le_refl _, by omega, Nat.le_refl _, by omega, h.dr (nS := nS + 1) (nL := nL) (nC := nC) (nO := nO) ?_ (fun a z1 z2 => hd a z1 (by omega)) (fun j z1 z2 => hd0 j z1 (by omega)) ⟨⟨?_, ?_, ?_, ?_, ?_, ?_⟩, ⟨?_, ?_, ?_, ?_, ?_, ?_, ?_⟩, fun l hl => ?_⟩ ⟨⟨h22, by omega⟩, ⟨?_, b2⟩, ⟨?_, c2⟩, ⟨?_, d2⟩, ⟨k, k1, k2, ?_⟩, ?_, fun i hi => ?_, ?_, ?_, ?_⟩ (fun j z => hd0 j (by omega) (by omega))⟩
    · simp (disch := omega) only [f_X10_seat, needI6, g1, if_false, bx_0, nm_d, r1', q1, hn, f_X10_needState, i10, f_X4_addSeat, inb_nI, grd_true, nI_clamp, up_n, e1, up_s, e2, bm_some]
    · intro a z; rw [up_n (by omega), up_n (by omega)]
    · rw [up_s, h22]
    · rw [up_m (by omega), up_n (by omega), hd0 24 (by omega) (by omega)]; exact r2
    · rw [up_m (by omega), up_n (by omega), hd0 29 (by omega) (by omega)]; exact r3
    · rw [up_m (by omega), up_n (by omega), hd0 34 (by omega) (by omega)]; exact r4
    · rw [up_m (by omega), up_n (by omega), hd0 37 (by omega) (by omega)]; exact r5
    · rw [up_m (by omega), up_n (by omega), hd0 38 (by omega) (by omega)]; exact r6
    · rw [up_n (by omega), up_a, h19, s1]
    · rw [up_n (by omega), up_n (by omega), hd 24 (by omega) (by omega)]; exact s2
    · rw [up_n (by omega), up_n (by omega), hd 25 (by omega) (by omega)]; exact s3
    · rw [up_n (by omega), up_n (by omega), hd 26 (by omega) (by omega)]; exact s4
    · rw [up_n (by omega), up_n (by omega), hd 27 (by omega) (by omega)]; exact s5
    · rw [up_n (by omega), up_n (by omega), hd 28 (by omega) (by omega)]; exact s6
    · rw [up_n (by omega), up_n (by omega), hd 29 (by omega) (by omega)]; exact s7
    · simp (disch := omega) only [up_n, hd]; exact s8 l hl
    · rw [hd0 24 (by omega) (by omega)]; exact b1
    · rw [hd0 29 (by omega) (by omega)]; exact c1
    · rw [hd0 34 (by omega) (by omega)]; exact d1
    · rw [hd0 37 (by omega) (by omega)]; exact k3
    · rw [hd0 38 (by omega) (by omega)]; exact g
    · rw [h19]
      by_cases hin : i = nS
      · exact ⟨s, hs, by simp [upd, hin]⟩
      · obtain ⟨s', hs', es'⟩ := i1 i (by omega)
        exact ⟨s', hs', by simp [upd, hin, es']⟩
    · intro l hl
      rw [hd 20 (by omega) (by omega), hd 21 (by omega) (by omega), hd 22 (by omega) (by omega), hd 23 (by omega) (by omega)]
      obtain ⟨a, b, c, d, y1, y2, y3, y4, y5, y6, y7, y8⟩ := l1 l hl
      exact ⟨a, b, c, d, y1, y2, y3, y4, y5, by omega, y7, y8⟩
    · intro w hw
      rw [hd 24 (by omega) (by omega), hd 25 (by omega) (by omega), hd 26 (by omega) (by omega), hd 27 (by omega) (by omega)]
      obtain ⟨a, c, y1, y2, y3, y4, y5⟩ := x1 w hw
      exact ⟨a, c, y1, y2, by omega, y4, y5⟩
    · intro o ho
      rw [hd 28 (by omega) (by omega), hd 29 (by omega) (by omega)]
      obtain ⟨a, c, y1, y2, y3, y4⟩ := o1 o ho
      exact ⟨a, c, y1, y2, by omega, y4⟩
/-- a column of a seat: both -/
theorem colS (hD : DR M m) (hG : DG m nS nL nC nO) : (∃ i s c, i < nS ∧ s < 6 ∧ c < cs s ∧ m 19 i = nI s ∧ p1 = nI i ∧ p2 = nI c ∧ f_X4_hasColumn fu p1 p2 M = some 1 ∧ f_X11_isSeatColumn fu p1 p2 m = some 1) ∨ (f_X4_hasColumn fu p1 p2 M = some 0 ∧ f_X11_isSeatColumn fu p1 p2 m = some 0) := by
  obtain ⟨⟨a1, a2⟩, _, _, _, _, _, i1, _⟩ := id hG
  obtain ⟨⟨r1, _⟩, ⟨s1, _⟩, _⟩ := id hD
  have r1' : M 80 9 = nI nS := by rw [r1, a1]
  have hin : (f_X11_in p1 0 (m 0 22 - 1) = 0) = (p1 < 0 ∨ nI nS ≤ p1) := by rw [a1, inm1 (by omega)]
  rcases idx nS (by omega) p1 with h1 | ⟨i, hi, rfl⟩
  · refine Or.inr ⟨?_, ?_⟩
    · simp only [f_X4_hasColumn, r1']
      rcases h1 with h1 | h1
      · rw [if_pos h1]
      · rw [if_pos h1]; split <;> rfl
    · simp only [f_X11_isSeatColumn, f_X11_isSeat, bd_some, hin, h1, if_true]
  have g1 := good (b := nS) (by omega) hi
  obtain ⟨s, hs, es⟩ := i1 i hi
  have h4 := cs_le (s := s)
  have n1 : ¬ nI i < 0 := fun z => g1 (Or.inl z)
  have n2 : ¬ nI nS ≤ nI i := fun z => g1 (Or.inr z)
  rcases idx (cs s) (by omega) p2 with h2 | ⟨c, hc, rfl⟩
  · refine Or.inr ⟨?_, ?_⟩
    · simp (disch := omega) only [f_X4_hasColumn, r1', n1, n2, if_false, inb_nI, grd_true, nI_clamp, s1, es, colF hs]
      rcases h2 with h2 | h2
      · rw [if_pos h2]
      · rw [if_pos h2]; split <;> rfl
    · simp (disch := omega) only [f_X11_isSeatColumn, f_X11_isSeat, bd_some, hin, g1, if_false, inb_nI, grd_true, nI_clamp, es, isCol0 hs, h2, if_true]
  · have g2 := good (b := cs s) (by omega) hc
    have n3 : ¬ nI c < 0 := fun z => g2 (Or.inl z)
    have n4 : ¬ nI (cs s) ≤ nI c := fun z => g2 (Or.inr z)
    refine Or.inl ⟨i, s, c, hi, hs, hc, es, rfl, rfl, ?_, ?_⟩
    · simp (disch := omega) only [f_X4_hasColumn, r1', n1, n2, n3, n4, if_false, inb_nI, grd_true, nI_clamp, s1, es, colF hs]
    · simp (disch := omega) only [f_X11_isSeatColumn, f_X11_isSeat, bd_some, hin, g1, if_false, inb_nI, grd_true, nI_clamp, es, isCol0 hs, g2]
theorem out_call (h : REL M m t u) : OUT kmS t u (f_X10_out fu p1 p2 M) (f_X11_out fu p1 p2 m) := by
  obtain ⟨RR, nS, nL, nC, nO, w1, w2, w3, _⟩ := id h
  rcases colS (fu := fu) (p1 := p1) (p2 := p2) w2 w3 with ⟨i, s, c, hi, hs, hc, es, rfl, rfl, e1, e2⟩ | ⟨e1, e2⟩
  rotate_left
  · refine OUT.same (k := 1) (v := 0) (p1 := 0) h (by omega) ?_ ?_ (fun hk => by omega)
    · simp only [f_X10_out, e1, bd_some, f_X10_needPlace, if_true, bx_1, xer]
    · simp only [f_X11_out, e2, bd_some, nm_d, if_true, up_s, le10, if_false]
      rfl
  obtain ⟨⟨a1, a2⟩, ⟨b1, b2⟩, ⟨c1, c2⟩, ⟨d1, d2⟩, ⟨k, k1, k2, k3⟩, g, i1, l1, x1, o1⟩ := id w3
  obtain ⟨⟨r1, r2, r3, r4, r5, r6⟩, ⟨s1, s2, s3, s4, s5, s6, s7⟩, s8⟩ := id w2
  obtain ⟨q1, q2⟩ := m3 d2
  have h4 := cs_le (s := s)
  have r4' : M 80 12 = nI nO := by rw [r4, d1]
  by_cases hn : nO = 3
  · refine OUT.same (k := 3) (v := 0) (p1 := 0) h (by omega) ?_ ?_ (fun hk => by omega)
    · simp only [f_X10_out, e1, bd_some, f_X10_needPlace, i10, if_false, bx_0, nm_d, r4', eq_true (q1 ▸ hn), if_true, f_X10_needState, bx_3, xer]
    · simp only [f_X11_out, e2, bd_some, nm_d, i10, if_false, d1, eq_true (q2 ▸ hn), if_true, up_s, le20]
      rfl
  · obtain ⟨f1, f2⟩ := p1m1 (q := nO)
    have eM : f_X11_out fu (nI i) (nI c) m = some (nI (nO + 1), up (up (up (up m 0 0 0) 28 nO (nI i)) 29 nO (nI c)) 0 34 (nI (nO + 1))) := by
      simp (disch := omega) only [f_X11_out, e2, bd_some, nm_d, i10, if_false, d1, q2, hn, up_s, Int32.le_refl, if_true, up_m, up_n, inb_nI, grd_true, nI_clamp, f1]
    generalize hm' : up (up (up (up m 0 0 0) 28 nO (nI i)) 29 nO (nI c)) 0 34 (nI (nO + 1)) = m' at *
    have hd : ∀ a, a ≠ 0 → a ≠ 28 → a ≠ 29 → m' a = m a := fun a z1 z2 z3 => by rw [← hm', up_n z1, up_n z3, up_n z2, up_n z1]
    have hd0 : ∀ j, j ≠ 0 → j ≠ 34 → m' 0 j = m 0 j := fun j z1 z2 => by rw [← hm', up_m z2, up_n (by omega), up_n (by omega), up_m z1]
    have h28 : m' 28 = upd (m 28) nO (nI i) := by rw [← hm', up_n (by omega), up_n (by omega), up_a, up_n (by omega)]
    have h29 : m' 29 = upd (m 29) nO (nI c) := by rw [← hm', up_n (by omega), up_a, up_n (by omega), up_n (by omega)]
    have h34 : m' 0 34 = nI (nO + 1) := by rw [← hm', up_s]
    have h00 : m' 0 0 = 0 := by rw [← hm', up_m (by omega), up_n (by omega), up_n (by omega), up_s]
    refine ⟨0, nI (nO + 1), up (up (up M 88 nO (nI i)) 89 nO (nI c)) 80 12 (nI (nO + 1)), nI (nO + 1), m', t, u, ?_, eM, h00, fun _ => rfl, by decide, Nat.le_refl _, by omega, Nat.le_refl _, by omega, h.dr (nS := nS) (nL := nL) (nC := nC) (nO := nO + 1) ?_ (fun a z1 z2 => hd a z1 (by omega) (by omega)) (fun j z1 z2 => hd0 j z1 (by omega)) ⟨⟨?_, ?_, ?_, ?_, ?_, ?_⟩, ⟨?_, ?_, ?_, ?_, ?_, ?_, ?_⟩, fun l hl => ?_⟩ ⟨⟨?_, a2⟩, ⟨?_, b2⟩, ⟨?_, c2⟩, ⟨h34, by omega⟩, ⟨k, k1, k2, ?_⟩, ?_, ?_, ?_, ?_, fun o ho => ?_⟩ (fun j z => hd0 j (by omega) (by omega))⟩
    · simp (disch := omega) only [f_X10_out, e1, bd_some, f_X10_needPlace, i10, if_false, bx_0, nm_d, r4', q1, hn, f_X10_needState, f_X4_addOutput, inb_nI, grd_true, nI_clamp, up_n, f1, up_s, bm_some]
    · intro a z; rw [up_n (by omega), up_n (by omega), up_n (by omega)]
    · rw [up_m (by omega), up_n (by omega), up_n (by omega), hd0 22 (by omega) (by omega)]; exact r1
    · rw [up_m (by omega), up_n (by omega), up_n (by omega), hd0 24 (by omega) (by omega)]; exact r2
    · rw [up_m (by omega), up_n (by omega), up_n (by omega), hd0 29 (by omega) (by omega)]; exact r3
    · rw [up_s, h34]
    · rw [up_m (by omega), up_n (by omega), up_n (by omega), hd0 37 (by omega) (by omega)]; exact r5
    · rw [up_m (by omega), up_n (by omega), up_n (by omega), hd0 38 (by omega) (by omega)]; exact r6
    · rw [up_n (by omega), up_n (by omega), up_n (by omega), hd 19 (by omega) (by omega) (by omega)]; exact s1
    · rw [up_n (by omega), up_n (by omega), up_n (by omega), hd 24 (by omega) (by omega) (by omega)]; exact s2
    · rw [up_n (by omega), up_n (by omega), up_n (by omega), hd 25 (by omega) (by omega) (by omega)]; exact s3
    · rw [up_n (by omega), up_n (by omega), up_n (by omega), hd 26 (by omega) (by omega) (by omega)]; exact s4
    · rw [up_n (by omega), up_n (by omega), up_n (by omega), hd 27 (by omega) (by omega) (by omega)]; exact s5
    · rw [up_n (by omega), up_n (by omega), up_a, h28, s6]
    · rw [up_n (by omega), up_a, up_n (by omega), h29, s7]
    · simp (disch := omega) only [up_n, hd]; exact s8 l hl
    · rw [hd0 22 (by omega) (by omega)]; exact a1
    · rw [hd0 24 (by omega) (by omega)]; exact b1
    · rw [hd0 29 (by omega) (by omega)]; exact c1
    · rw [hd0 37 (by omega) (by omega)]; exact k3
    · rw [hd0 38 (by omega) (by omega)]; exact g
    · rw [hd 19 (by omega) (by omega) (by omega)]; exact i1
    · rw [hd 20 (by omega) (by omega) (by omega), hd 21 (by omega) (by omega) (by omega), hd 22 (by omega) (by omega) (by omega), hd 23 (by omega) (by omega) (by omega)]
      exact l1
    · rw [hd 24 (by omega) (by omega) (by omega), hd 25 (by omega) (by omega) (by omega), hd 26 (by omega) (by omega) (by omega), hd 27 (by omega) (by omega) (by omega)]
      exact x1
    · rw [h28, h29]
      by_cases hin : o = nO
      · exact ⟨i, c, by simp [upd, hin], by simp [upd, hin], hi, by omega⟩
      · obtain ⟨a, c', y1, y2, y3, y4⟩ := o1 o (by omega)
        exact ⟨a, c', by simp [upd, hin, y1], by simp [upd, hin, y2], y3, y4⟩
end Draft2
