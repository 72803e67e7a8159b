/-! ===== conditions, links, the shape, all cleared ===== -/
section Draft3
variable {fu nS nL nC nO i j s t u e p c k : Nat} {M m N n : Mem} {RR RR' : Nat → List Row} {R : List Row} {v x p1 p2 p3 p4 p5 p6 : Int32} {km : Nat → Nat} {f : Option XR} {g : Option (Int32 × Mem)}
theorem cond0 : ((if (f_X11_in p3 0 4) = 0 then 0 else (if 3 ≤ p3 then (if p4 = 0 then 1 else 0) else (if (f_X11_isNumber p4) = 0 then 0 else 1)) : Int32) = 0) = (f_X10_isCondition p3 p4 = 0) := by
  simp only [f_X11_in, f_X10_isCondition, f_X11_isNumber, f_X10_isIn, jn_d]
  grind
theorem cond1 (h : ¬ f_X10_isCondition p3 p4 = 0) (h0 : p3 = 0) : -999 ≤ p4 ∧ p4 ≤ 999 := by
  subst h0
  simp only [f_X10_isCondition, f_X10_isIn, jn_d] at h
  grind
theorem where_call (h : REL M m t u) : OUT kmI t u (f_X10_where fu p1 p2 p3 p4 M) (f_X11_where fu p1 p2 p3 p4 m) := by
  obtain ⟨RR, nS, nL, nC, nO, w1, w2, w3, _⟩ := id h
  have hc0 := cond0 (p3 := p3) (p4 := p4)
  generalize hv5 : (if (f_X11_in p3 0 4) = 0 then 0 else (if 3 ≤ p3 then (if p4 = 0 then 1 else 0) else (if (f_X11_isNumber p4) = 0 then 0 else 1)) : Int32) = v5 at hc0
  rcases colS (fu := fu) (p1 := p1) (p2 := p2) w2 w3 with ⟨i, s, c, hi, hs, hc, es, rfl, rfl, e1, e2⟩ | ⟨e1, e2⟩
  rotate_left
  · refine OUT.same (k := 1) (v := 0) (p1 := 0) h (by omega) ?_ ?_ (fun hk => by omega)
    · simp only [f_X10_where, e1, bd_some, f_X10_needPlace, if_true, bx_1, xer]
    · simp only [f_X11_where, hv5, e2, bd_some, nm_d, if_true, up_s, le10, if_false]
      rfl
  by_cases hcc : f_X10_isCondition p3 p4 = 0
  · refine OUT.same (k := 2) (v := 0) (p1 := 0) h (by omega) ?_ ?_ (fun hk => by omega)
    · simp only [f_X10_where, e1, bd_some, f_X10_needPlace, i10, if_false, bx_0, f_X10_needArgument, hcc, if_true, bx_2, xer]
    · simp only [f_X11_where, hv5, e2, bd_some, nm_d, i10, if_false, hc0, hcc, if_true, up_s, le20]
      rfl
  obtain ⟨⟨a1, a2⟩, ⟨b1, b2⟩, ⟨c1, c2⟩, ⟨d1, d2⟩, ⟨k, k1, k2, k3⟩, g, i1, l1, x1, o1⟩ := id w3
  obtain ⟨⟨r1, r2, r3, r4, r5, r6⟩, ⟨s1, s2, s3, s4, s5, s6, s7⟩, s8⟩ := id w2
  obtain ⟨q1, q2⟩ := m4 c2
  have h4 := cs_le (s := s)
  have r3' : M 80 11 = nI nC := by rw [r3, c1]
  by_cases hn : nC = 4
  · refine OUT.same (k := 3) (v := 0) (p1 := 0) h (by omega) ?_ ?_ (fun hk => by omega)
    · simp only [f_X10_where, e1, bd_some, f_X10_needPlace, i10, if_false, bx_0, f_X10_needArgument, hcc, nm_d, r3', eq_true (q1 ▸ hn), if_true, f_X10_needState, bx_3, xer]
    · simp only [f_X11_where, hv5, e2, bd_some, nm_d, i10, if_false, hc0, hcc, c1, eq_true (q2 ▸ hn), if_true, up_s, le30]
      rfl
  · obtain ⟨f1, f2⟩ := p1m1 (q := nC)
    have eM : f_X11_where fu (nI i) (nI c) p3 p4 m = some (nI (nC + 1), up (up (up (up (up (up m 0 0 0) 24 nC (nI i)) 25 nC (nI c)) 26 nC p3) 27 nC p4) 0 29 (nI (nC + 1))) := by
      simp (disch := omega) only [f_X11_where, hv5, e2, bd_some, nm_d, i10, if_false, hc0, hcc, c1, q2, hn, up_s, Int32.le_refl, if_true, up_m, up_n, inb_nI, grd_true, nI_clamp, f1]
    generalize hm' : up (up (up (up (up (up m 0 0 0) 24 nC (nI i)) 25 nC (nI c)) 26 nC p3) 27 nC p4) 0 29 (nI (nC + 1)) = m' at *
    have hd : ∀ a, a ≠ 0 → a < 24 ∨ 27 < a → m' a = m a := fun a z1 z2 => by rw [← hm', up_n z1, up_n (by omega), up_n (by omega), up_n (by omega), up_n (by omega), up_n z1]
    have hd0 : ∀ j, j ≠ 0 → j ≠ 29 → m' 0 j = m 0 j := fun j z1 z2 => by rw [← hm', up_m z2, up_n (by omega), up_n (by omega), up_n (by omega), up_n (by omega), up_m z1]
    have h24 : m' 24 = upd (m 24) nC (nI i) := by rw [← hm', up_n (by omega), up_n (by omega), up_n (by omega), up_n (by omega), up_a, up_n (by omega)]
    have h25 : m' 25 = upd (m 25) nC (nI c) := by rw [← hm', up_n (by omega), up_n (by omega), up_n (by omega), up_a, up_n (by omega), up_n (by omega)]
    have h26 : m' 26 = upd (m 26) nC p3 := by rw [← hm', up_n (by omega), up_n (by omega), up_a, up_n (by omega), up_n (by omega), up_n (by omega)]
    have h27 : m' 27 = upd (m 27) nC p4 := by rw [← hm', up_n (by omega), up_a, up_n (by omega), up_n (by omega), up_n (by omega), up_n (by omega)]
    have h29 : m' 0 29 = nI (nC + 1) := by rw [← hm', up_s]
    have h00 : m' 0 0 = 0 := by rw [← hm', up_m (by omega), up_n (by omega), up_n (by omega), up_n (by omega), up_n (by omega), up_s]
    have eC : f_X10_where fu (nI i) (nI c) p3 p4 M = some (0, nI (nC + 1), up (up (up (up (up M 84 nC (nI i)) 85 nC (nI c)) 86 nC p3) 87 nC p4) 80 11 (nI (nC + 1))) := by
      simp (disch := omega) only [f_X10_where, e1, bd_some, f_X10_needPlace, i10, if_false, bx_0, f_X10_needArgument, hcc, nm_d, r3', q1, hn, f_X10_needState, f_X4_addCondition, inb_nI, grd_true, nI_clamp, up_n, f1, up_s, bm_some]
    generalize hM' : up (up (up (up (up M 84 nC (nI i)) 85 nC (nI c)) 86 nC p3) 87 nC p4) 80 11 (nI (nC + 1)) = M' at *
    have hD : ∀ a, a ≠ 80 → a < 84 ∨ 87 < a → M' a = M a := fun a z1 z2 => by rw [← hM', up_n z1, up_n (by omega), up_n (by omega), up_n (by omega), up_n (by omega)]
    have hD0 : ∀ j, j ≠ 11 → M' 80 j = M 80 j := fun j z2 => by rw [← hM', up_m z2, up_n (by omega), up_n (by omega), up_n (by omega), up_n (by omega)]
    refine ⟨0, nI (nC + 1), M', nI (nC + 1), m', t, u, eC, eM, h00, fun _ => rfl, by decide, Nat.le_refl _, by omega, Nat.le_refl _, by omega, h.dr (nS := nS) (nL := nL) (nC := nC + 1) (nO := nO) (fun a z => hD a (by omega) (by omega)) (fun a z1 z2 => hd a z1 (by omega)) (fun j z1 z2 => hd0 j z1 (by omega)) ⟨⟨?_, ?_, ?_, ?_, ?_, ?_⟩, ⟨?_, ?_, ?_, ?_, ?_, ?_, ?_⟩, fun l hl => ?_⟩ ⟨⟨?_, a2⟩, ⟨?_, b2⟩, ⟨h29, by omega⟩, ⟨?_, d2⟩, ⟨k, k1, k2, ?_⟩, ?_, ?_, ?_, fun w hw => ?_, ?_⟩ (fun j z => hd0 j (by omega) (by omega))⟩
    · rw [hD0 9 (by omega), hd0 22 (by omega) (by omega)]; exact r1
    · rw [hD0 10 (by omega), hd0 24 (by omega) (by omega)]; exact r2
    · rw [h29, ← hM', up_s]
    · rw [hD0 12 (by omega), hd0 34 (by omega) (by omega)]; exact r4
    · rw [hD0 13 (by omega), hd0 37 (by omega) (by omega)]; exact r5
    · rw [hD0 14 (by omega), hd0 38 (by omega) (by omega)]; exact r6
    · rw [hD 81 (by omega) (by omega), hd 19 (by omega) (by omega)]; exact s1
    · rw [h24, ← hM', up_n (by omega), up_n (by omega), up_n (by omega), up_n (by omega), up_a, s2]
    · rw [h25, ← hM', up_n (by omega), up_n (by omega), up_n (by omega), up_a, up_n (by omega), s3]
    · rw [h26, ← hM', up_n (by omega), up_n (by omega), up_a, up_n (by omega), up_n (by omega), s4]
    · rw [h27, ← hM', up_n (by omega), up_a, up_n (by omega), up_n (by omega), up_n (by omega), s5]
    · rw [hD 88 (by omega) (by omega), hd 28 (by omega) (by omega)]; exact s6
    · rw [hD 89 (by omega) (by omega), hd 29 (by omega) (by omega)]; exact s7
    · simp (disch := omega) only [hD, hd]; exact s8 l hl
    · rw [hd0 22 (by omega) (by omega)]; exact a1
    · rw [hd0 24 (by omega) (by omega)]; exact b1
    · rw [hd0 34 (by omega) (by omega)]; exact d1
    · rw [hd0 37 (by omega) (by omega)]; exact k3
    · rw [hd0 38 (by omega) (by omega)]; exact g
    · rw [hd 19 (by omega) (by omega)]; exact i1
    · rw [hd 20 (by omega) (by omega), hd 21 (by omega) (by omega), hd 22 (by omega) (by omega), hd 23 (by omega) (by omega)]
      exact l1
    · rw [h24, h25, h26, h27]
      by_cases hin : w = nC
      · refine ⟨i, c, by simp [upd, hin], by simp [upd, hin], hi, by omega, ?_⟩
        have z1 : upd (m 26) nC p3 w = p3 := by simp [upd, hin]
        have z2 : upd (m 27) nC p4 w = p4 := by simp [upd, hin]
        rw [z1, z2]
        exact cond1 hcc
      · obtain ⟨a, c', y1, y2, y3, y4, y5⟩ := x1 w (by omega)
        have z1 : upd (m 26) nC p3 w = m 26 w := by simp [upd, hin]
        have z2 : upd (m 27) nC p4 w = m 27 w := by simp [upd, hin]
        exact ⟨a, c', by simp [upd, hin, y1], by simp [upd, hin, y2], y3, y4, by rw [z1, z2]; exact y5⟩
    · rw [hd 28 (by omega) (by omega), hd 29 (by omega) (by omega)]
      exact o1
theorem shape_call (h : REL M m t u) (hb : isb p2 = true) : ∃ k N n, f_X10_shape fu p1 p2 M = some (k, 0, N) ∧ f_X11_shape fu p1 p2 m = some n ∧ (k = 0 ∧ n 0 0 = 0 ∨ k = 2 ∧ n 0 0 = 1) ∧ REL N n t u := by
  have e10 : ((1 : Int32) = 0) = False := by decide
  by_cases h2 : p1 < 1 ∨ nI 40 < p1
  · have h2' : f_X10_isIn p1 1 40 = 0 := isIn0.mpr h2
    refine ⟨2, M, up m 0 0 1, ?_, ?_, Or.inr ⟨rfl, up_s⟩, h.up0 1⟩
    · simp only [f_X10_shape, h2', if_true, f_X10_needArgument, bx_2, xer]
    · simp only [f_X11_shape, nm_d, in0, show (40 : Int32) = nI 40 from rfl, h2, if_true, up_s, e10, if_false]
  have h2' : ¬ f_X10_isIn p1 1 40 = 0 := fun z => h2 (isIn0.mp z)
  obtain ⟨d, hd, rfl⟩ : ∃ d, d ≤ 40 ∧ p1 = nI d := by
    refine inR (fun z => h2 (Or.inl ?_)) (fun z => h2 (Or.inr z)) (by omega)
    rw [i_lt] at z ⊢
    rw [show (1 : Int32).toInt = 1 from by decide]
    rw [show (0 : Int32).toInt = 0 from by decide] at z
    omega
  have hd1 : 1 ≤ d := by
    rcases d with _ | d
    · exact absurd (Or.inl (by decide)) h2
    · omega
  obtain ⟨RR, nS, nL, nC, nO, w1, w2, w3, _⟩ := id h
  obtain ⟨⟨a1, a2⟩, ⟨b1, b2⟩, ⟨c1, c2⟩, ⟨d1, d2⟩, ⟨k, k1, k2, k3⟩, g, i1, l1, x1, o1⟩ := id w3
  obtain ⟨⟨r1, r2, r3, r4, r5, r6⟩, ⟨s1, s2, s3, s4, s5, s6, s7⟩, s8⟩ := id w2
  have f0 : ∀ j, j ≠ 0 → j ≠ 37 → j ≠ 38 → up (up (up m 0 0 0) 0 37 (nI d)) 0 38 p2 0 j = m 0 j := fun j z1 z2 z3 => by rw [up_m z3, up_m z2, up_m z1]
  have fa : ∀ a, a ≠ 0 → up (up (up m 0 0 0) 0 37 (nI d)) 0 38 p2 a = m a := fun a z => by rw [up_n z, up_n z, up_n z]
  have h37 : up (up (up m 0 0 0) 0 37 (nI d)) 0 38 p2 0 37 = nI d := by rw [up_m (by omega), up_s]
  have h38 : up (up (up m 0 0 0) 0 37 (nI d)) 0 38 p2 0 38 = p2 := up_s
  refine ⟨0, up (up M 80 13 (nI d)) 80 14 p2, up (up (up m 0 0 0) 0 37 (nI d)) 0 38 p2, ?_, ?_, Or.inl ⟨rfl, by rw [up_m (by omega), up_m (by omega), up_s]⟩, ?_⟩
  · simp only [f_X10_shape, h2', if_false, f_X10_needArgument, bx_0, nm_d, hb, grd_true]
  · simp only [f_X11_shape, nm_d, in0, show (40 : Int32) = nI 40 from rfl, h2, if_false, up_s, if_true, hb, grd_true]
  generalize up (up (up m 0 0 0) 0 37 (nI d)) 0 38 p2 = m' at *
  refine h.dr (nS := nS) (nL := nL) (nC := nC) (nO := nO) ?_ (fun a z1 z2 => fa a z1) (fun j z1 z2 => f0 j z1 (by omega) (by omega)) ⟨⟨?_, ?_, ?_, ?_, ?_, ?_⟩, ⟨?_, ?_, ?_, ?_, ?_, ?_, ?_⟩, fun l hl => ?_⟩ ⟨⟨?_, a2⟩, ⟨?_, b2⟩, ⟨?_, c2⟩, ⟨?_, d2⟩, ⟨d, hd1, hd, h37⟩, ?_, ?_, ?_, ?_, ?_⟩ (fun j z => f0 j (by omega) (by omega) (by omega))
  · intro a z; rw [up_n (by omega), up_n (by omega)]
  · rw [up_m (by omega), up_m (by omega), f0 22 (by omega) (by omega) (by omega)]; exact r1
  · rw [up_m (by omega), up_m (by omega), f0 24 (by omega) (by omega) (by omega)]; exact r2
  · rw [up_m (by omega), up_m (by omega), f0 29 (by omega) (by omega) (by omega)]; exact r3
  · rw [up_m (by omega), up_m (by omega), f0 34 (by omega) (by omega) (by omega)]; exact r4
  · rw [up_m (by omega), up_s, h37]
  · rw [up_s, h38]
  · rw [up_n (by omega), up_n (by omega), fa 19 (by omega)]; exact s1
  · rw [up_n (by omega), up_n (by omega), fa 24 (by omega)]; exact s2
  · rw [up_n (by omega), up_n (by omega), fa 25 (by omega)]; exact s3
  · rw [up_n (by omega), up_n (by omega), fa 26 (by omega)]; exact s4
  · rw [up_n (by omega), up_n (by omega), fa 27 (by omega)]; exact s5
  · rw [up_n (by omega), up_n (by omega), fa 28 (by omega)]; exact s6
  · rw [up_n (by omega), up_n (by omega), fa 29 (by omega)]; exact s7
  · simp (disch := omega) only [up_n, fa]; exact s8 l hl
  · rw [f0 22 (by omega) (by omega) (by omega)]; exact a1
  · rw [f0 24 (by omega) (by omega) (by omega)]; exact b1
  · rw [f0 29 (by omega) (by omega) (by omega)]; exact c1
  · rw [f0 34 (by omega) (by omega) (by omega)]; exact d1
  · rw [h38]
    simp only [isb, Bool.or_eq_true, decide_eq_true_eq] at hb
    exact hb
  · rw [fa 19 (by omega)]; exact i1
  · rw [fa 20 (by omega), fa 21 (by omega), fa 22 (by omega), fa 23 (by omega)]; exact l1
  · rw [fa 24 (by omega), fa 25 (by omega), fa 26 (by omega), fa 27 (by omega)]; exact x1
  · rw [fa 28 (by omega), fa 29 (by omega)]; exact o1
theorem clear_call (h : REL M m t u) : ∃ v N n, f_X10_clear fu M = some (v, N) ∧ f_X11_clear fu m = some (v, n) ∧ n 0 0 = 0 ∧ REL N n t u := by
  obtain ⟨RR, nS, nL, nC, nO, w1, w2, w3, _⟩ := id h
  obtain ⟨⟨r1, r2, r3, r4, r5, r6⟩, ⟨s1, s2, s3, s4, s5, s6, s7⟩, s8⟩ := id w2
  refine ⟨M 80 9, up (up (up (up (up (up M 80 9 0) 80 10 0) 80 11 0) 80 12 0) 80 13 40) 80 14 0, up (up (up (up (up (up (up m 0 0 0) 0 22 0) 0 24 0) 0 29 0) 0 34 0) 0 37 40) 0 38 0, ?_, ?_, ?_, ?_⟩
  · simp only [f_X10_clear, f_X4_makeEmpty, nm_d, bd_some]
  · simp (disch := omega) only [f_X11_clear, nm_d, up_m, r1]
  · simp (disch := omega) only [up_m, up_s]
  · refine h.dr (nS := 0) (nL := 0) (nC := 0) (nO := 0) ?_ ?_ ?_ ⟨⟨?_, ?_, ?_, ?_, ?_, ?_⟩, ⟨?_, ?_, ?_, ?_, ?_, ?_, ?_⟩, fun l hl => ?_⟩ ⟨⟨?_, by omega⟩, ⟨?_, by omega⟩, ⟨?_, by omega⟩, ⟨?_, by omega⟩, ⟨40, by omega, by omega, ?_⟩, ?_, fun i hi => by omega, fun i hi => by omega, fun i hi => by omega, fun i hi => by omega⟩ ?_
    · intro a z
      simp (disch := omega) only [up_n]
    · intro a z1 z2
      simp (disch := omega) only [up_n]
    · intro j z1 z2
      simp (disch := omega) only [up_m]
    all_goals (try simp (disch := omega) only [up_n, up_m, up_s])
    all_goals (try assumption)
    all_goals (try rfl)
    · exact s8 l hl
    · exact Or.inl trivial
    · intro j z
      simp (disch := omega) only [up_m]
theorem link_call (h : REL M m t u) : OUT kmI t u (f_X10_link fu p1 p2 p3 p4 M) (f_X11_link fu p1 p2 p3 p4 m) := by
  obtain ⟨RR, nS, nL, nC, nO, w1, w2, w3, _⟩ := id h
  rcases colS (fu := fu) (p1 := p1) (p2 := p2) w2 w3 with ⟨i, s, c, hi, hs, hc, es, rfl, rfl, e1, e2⟩ | ⟨e1, e2⟩
  rotate_left
  · refine OUT.same (k := 1) (v := 0) (p1 := 0) h (by omega) ?_ ?_ (fun hk => by omega)
    · simp only [f_X10_link, e1, bd_some, jn_d, f_X10_needPlace, if_true, bx_1, xer]
    · simp only [f_X11_link, e2, bd_some, nm_d, jn_d, if_true, up_s, le10, if_false]
      rfl
  rcases colS (fu := fu) (p1 := p3) (p2 := p4) w2 w3 with ⟨i', s', c', hi', hs', hc', es', rfl, rfl, e1', e2'⟩ | ⟨e1', e2'⟩
  rotate_left
  · refine OUT.same (k := 1) (v := 0) (p1 := 0) h (by omega) ?_ ?_ (fun hk => by omega)
    · simp only [f_X10_link, e1, e1', bd_some, jn_d, i10, if_false, f_X10_needPlace, if_true, bx_1, xer]
    · simp only [f_X11_link, e2, e2', bd_some, nm_d, jn_d, i10, if_true, up_s, le10, if_false]
      rfl
  obtain ⟨⟨a1, a2⟩, ⟨b1, b2⟩, ⟨c1, c2⟩, ⟨d1, d2⟩, ⟨k, k1, k2, k3⟩, g, i1, l1, x1, o1⟩ := id w3
  obtain ⟨⟨r1, r2, r3, r4, r5, r6⟩, ⟨s1, s2, s3, s4, s5, s6, s7⟩, s8⟩ := id w2
  obtain ⟨q1, q2⟩ := m3 b2
  have h4 := cs_le (s := s)
  have h4' := cs_le (s := s')
  have r2' : M 80 10 = nI nL := by rw [r2, b1]
  have hle : (nI i' ≤ nI i) = (i' ≤ i) := by rw [nI_leI (by omega) (by omega)]
  have hlt : (nI i < nI i') = (i < i') := by rw [nI_ltI (by omega) (by omega)]
  by_cases hii : i' ≤ i
  · refine OUT.same (k := 2) (v := 0) (p1 := 0) h (by omega) ?_ ?_ (fun hk => by omega)
    · simp only [f_X10_link, e1, e1', bd_some, jn_d, i10, if_false, f_X10_needPlace, bx_0, nm_d, hle, hii, if_true, f_X10_needArgument, bx_2, xer]
    · have hn : ¬ i < i' := by omega
      simp only [f_X11_link, e2, e2', bd_some, nm_d, jn_d, i10, if_false, hlt, hn, up_s, le20]
      rfl
  have hlt' : i < i' := by omega
  by_cases hn : nL = 3
  · refine OUT.same (k := 3) (v := 0) (p1 := 0) h (by omega) ?_ ?_ (fun hk => by omega)
    · simp only [f_X10_link, e1, e1', bd_some, jn_d, i10, if_false, f_X10_needPlace, bx_0, nm_d, hle, hii, f_X10_needArgument, r2', eq_true (q1 ▸ hn), if_true, f_X10_needState, bx_3, xer]
    · simp only [f_X11_link, e2, e2', bd_some, nm_d, jn_d, i10, if_false, hlt, hlt', b1, eq_true (q2 ▸ hn), if_true, up_s, le30]
      rfl
  · obtain ⟨f1, f2⟩ := p1m1 (q := nL)
    have f3 : 2 * nI nL = nI (2 * nL) := by rw [show (2 : Int32) = nI 2 from rfl, pk_mul]
    obtain ⟨f4, _⟩ := p1m1 (q := 2 * nL)
    have eM : f_X11_link fu (nI i) (nI c) (nI i') (nI c') m = some (nI (nL + 1), up (up (up (up (up (up m 0 0 0) 20 nL (nI i)) 21 nL (nI c)) 22 nL (nI i')) 23 nL (nI c')) 0 24 (nI (nL + 1))) := by
      simp (disch := omega) only [f_X11_link, e2, e2', bd_some, nm_d, jn_d, i10, if_false, hlt, hlt', b1, q2, hn, up_s, Int32.le_refl, if_true, up_m, up_n, inb_nI, grd_true, nI_clamp, f1]
    generalize hm' : up (up (up (up (up (up m 0 0 0) 20 nL (nI i)) 21 nL (nI c)) 22 nL (nI i')) 23 nL (nI c')) 0 24 (nI (nL + 1)) = m' at *
    have hd : ∀ a, a ≠ 0 → a < 20 ∨ 23 < a → m' a = m a := fun a z1 z2 => by rw [← hm', up_n z1, up_n (by omega), up_n (by omega), up_n (by omega), up_n (by omega), up_n z1]
    have hd0 : ∀ j, j ≠ 0 → j ≠ 24 → m' 0 j = m 0 j := fun j z1 z2 => by rw [← hm', up_m z2, up_n (by omega), up_n (by omega), up_n (by omega), up_n (by omega), up_m z1]
    have h20 : m' 20 = upd (m 20) nL (nI i) := by rw [← hm', up_n (by omega), up_n (by omega), up_n (by omega), up_n (by omega), up_a, up_n (by omega)]
    have h21 : m' 21 = upd (m 21) nL (nI c) := by rw [← hm', up_n (by omega), up_n (by omega), up_n (by omega), up_a, up_n (by omega), up_n (by omega)]
    have h22 : m' 22 = upd (m 22) nL (nI i') := by rw [← hm', up_n (by omega), up_n (by omega), up_a, up_n (by omega), up_n (by omega), up_n (by omega)]
    have h23 : m' 23 = upd (m 23) nL (nI c') := by rw [← hm', up_n (by omega), up_a, up_n (by omega), up_n (by omega), up_n (by omega), up_n (by omega)]
    have h24 : m' 0 24 = nI (nL + 1) := by rw [← hm', up_s]
    have h00 : m' 0 0 = 0 := by rw [← hm', up_m (by omega), up_n (by omega), up_n (by omega), up_n (by omega), up_n (by omega), up_s]
    have eC : f_X10_link fu (nI i) (nI c) (nI i') (nI c') M = some (0, nI (nL + 1), up (up (up (up (up M 82 (2 * nL) (nI i)) 83 (2 * nL) (nI c)) 82 (2 * nL + 1) (nI i')) 83 (2 * nL + 1) (nI c')) 80 10 (nI (nL + 1))) := by
      simp (disch := omega) only [f_X10_link, e1, e1', bd_some, jn_d, i10, if_false, f_X10_needPlace, bx_0, nm_d, hle, hii, f_X10_needArgument, r2', q1, hn, f_X10_needState, f_X4_addLink, f3, f4, inb_nI, grd_true, nI_clamp, up_n, f1, up_s, bm_some]
    generalize hM' : up (up (up (up (up M 82 (2 * nL) (nI i)) 83 (2 * nL) (nI c)) 82 (2 * nL + 1) (nI i')) 83 (2 * nL + 1) (nI c')) 80 10 (nI (nL + 1)) = M' at *
    have hD : ∀ a, a ≠ 80 → a < 82 ∨ 83 < a → M' a = M a := fun a z1 z2 => by rw [← hM', up_n z1, up_n (by omega), up_n (by omega), up_n (by omega), up_n (by omega)]
    have hD0 : ∀ j, j ≠ 10 → M' 80 j = M 80 j := fun j z2 => by rw [← hM', up_m z2, up_n (by omega), up_n (by omega), up_n (by omega), up_n (by omega)]
    refine ⟨0, nI (nL + 1), M', nI (nL + 1), m', t, u, eC, eM, h00, fun _ => rfl, by decide, Nat.le_refl _, by omega, Nat.le_refl _, by omega, h.dr (nS := nS) (nL := nL + 1) (nC := nC) (nO := nO) (fun a z => hD a (by omega) (by omega)) (fun a z1 z2 => hd a z1 (by omega)) (fun j z1 z2 => hd0 j z1 (by omega)) ⟨⟨?_, ?_, ?_, ?_, ?_, ?_⟩, ⟨?_, ?_, ?_, ?_, ?_, ?_, ?_⟩, fun l hl => ?_⟩ ⟨⟨?_, a2⟩, ⟨h24, by omega⟩, ⟨?_, c2⟩, ⟨?_, d2⟩, ⟨k, k1, k2, ?_⟩, ?_, ?_, fun l hl => ?_, ?_, ?_⟩ (fun j z => hd0 j (by omega) (by omega))⟩
    · rw [hD0 9 (by omega), hd0 22 (by omega) (by omega)]; exact r1
    · rw [h24, ← hM', up_s]
    · rw [hD0 11 (by omega), hd0 29 (by omega) (by omega)]; exact r3
    · rw [hD0 12 (by omega), hd0 34 (by omega) (by omega)]; exact r4
    · rw [hD0 13 (by omega), hd0 37 (by omega) (by omega)]; exact r5
    · rw [hD0 14 (by omega), hd0 38 (by omega) (by omega)]; exact r6
    · rw [hD 81 (by omega) (by omega), hd 19 (by omega) (by omega)]; exact s1
    · rw [hD 84 (by omega) (by omega), hd 24 (by omega) (by omega)]; exact s2
    · rw [hD 85 (by omega) (by omega), hd 25 (by omega) (by omega)]; exact s3
    · rw [hD 86 (by omega) (by omega), hd 26 (by omega) (by omega)]; exact s4
    · rw [hD 87 (by omega) (by omega), hd 27 (by omega) (by omega)]; exact s5
    · rw [hD 88 (by omega) (by omega), hd 28 (by omega) (by omega)]; exact s6
    · rw [hD 89 (by omega) (by omega), hd 29 (by omega) (by omega)]; exact s7
    · obtain ⟨y1, y2, y3, y4⟩ := s8 l hl
      rw [h20, h21, h22, h23, ← hM']
      by_cases hll : l = nL
      · subst hll
        simp (disch := omega) only [up_n, up_m, up_s]
        simp [upd]
      · simp (disch := omega) only [up_n, up_m]
        simp only [upd, hll, if_false]
        exact ⟨y1, y2, y3, y4⟩
    · rw [hd0 22 (by omega) (by omega)]; exact a1
    · rw [hd0 29 (by omega) (by omega)]; exact c1
    · rw [hd0 34 (by omega) (by omega)]; exact d1
    · rw [hd0 37 (by omega) (by omega)]; exact k3
    · rw [hd0 38 (by omega) (by omega)]; exact g
    · rw [hd 19 (by omega) (by omega)]; exact i1
    · rw [h20, h21, h22, h23]
      by_cases hll : l = nL
      · exact ⟨i, i', c, c', by simp [upd, hll], by simp [upd, hll], by simp [upd, hll], by simp [upd, hll], hlt', hi', by omega, by omega⟩
      · obtain ⟨a, b, cc, d, y1, y2, y3, y4, y5, y6, y7, y8⟩ := l1 l (by omega)
        exact ⟨a, b, cc, d, by simp [upd, hll, y1], by simp [upd, hll, y2], by simp [upd, hll, y3], by simp [upd, hll, y4], y5, y6, y7, y8⟩
    · rw [hd 24 (by omega) (by omega), hd 25 (by omega) (by omega), hd 26 (by omega) (by omega), hd 27 (by omega) (by omega)]
      exact x1
    · rw [hd 28 (by omega) (by omega), hd 29 (by omega) (by omega)]
      exact o1
end Draft3
