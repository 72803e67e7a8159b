/-! ===== steps of a bundle are noted; a try of a step ===== -/
def FCt (N M : Mem) : Prop := ∀ a, a ≠ 1 → a ≠ 2 → a ≠ 3 → a ≠ 52 → a ≠ 55 → a ≠ 56 → N a = M a
def FMt (n m : Mem) : Prop := (∀ a, 0 < a → a < 30 ∨ 41 < a → a ≠ 11 → a ≠ 13 → a ≠ 14 → n a = m a) ∧ ∀ j, j ≠ 8 → j ≠ 39 → n 0 j = m 0 j
section StepB
variable {fu nS nL nC nO i j s t u e p c k : Nat} {M m N n : Mem} {RR RR' : Nat → List Row} {R : List Row} {v x p1 p2 p3 p4 p5 p6 : Int32} {km : Nat → Nat} {f : Option XR} {g : Option (Int32 × Mem)}
theorem step0 : ((if (f_X11_in p1 0 2) = 0 then 0 else (if p1 = 0 then (if p1 = 2 then (if p4 = 0 then (if p5 = 0 then 1 else 0) else 0) else 1) else (if p6 = 0 then (if p1 = 2 then (if p4 = 0 then (if p5 = 0 then 1 else 0) else 0) else 1) else 0))) : Int32) = f_X10_isStep p1 p4 p5 p6 := by
  simp only [f_X11_in, f_X10_isStep]
  by_cases z0 : p1 = 0
  · subst z0; simp (decide := true)
  by_cases z1 : p1 = 1
  · subst z1; simp (decide := true)
  by_cases z2 : p1 = 2
  · subst z2; simp (decide := true)
    by_cases y0 : p4 = 0 <;> by_cases y1 : p5 = 0 <;> by_cases y2 : p6 = 0 <;> simp [y0, y1, y2]
  have : p1 < 0 ∨ 2 < p1 := by grind
  rcases this with z | z <;> simp [z0, z1, z2, z]
theorem kinds (h : ¬ f_X10_isStep p1 p4 p5 p6 = 0) : p1 = 0 ∨ p1 = 1 ∨ p1 = 2 := by
  simp only [f_X10_isStep] at h
  grind
theorem REL.bb (h : REL M m t u) (fC : ∀ a, a < 122 ∨ 126 < a → N a = M a) (fM : ∀ a, a ≠ 0 → a < 58 ∨ 63 < a → n a = m a) (f0 : ∀ j, j ≠ 0 → j ≠ 85 → n 0 j = m 0 j) (hB : BB N n) : REL N n t u := by
  obtain ⟨RR, nS, nL, nC, nO, w1, w2, w3, w4, w5, w6, ⟨⟨k, cols, k1, k2, k3, k4, k5, k6, k7⟩, l2, l3, l4, l5, l6, p, p1, p2, p3, p4⟩, w8⟩ := h
  have hD : DS n m := ⟨fun a z1 z2 => fM a (by omega) (by omega), fun j z1 z2 => f0 j (by omega) (by omega)⟩
  refine ⟨RR, nS, nL, nC, nO, w1.of (w1.1.cg (fun a z1 z2 z3 => fC a (by omega)) (f0 7 (by omega) (by omega)) (f0 8 (by omega) (by omega)) (f0 39 (by omega) (by omega)) (fun a z1 z2 => fM a (by omega) (by omega)) (fun a z1 z2 => fM a (by omega) (by omega))) (fun a z1 z2 z3 => fC a (by omega)) (fun a z1 z2 => fM a (by omega) (by omega)) (f0 6 (by omega) (by omega)), w2.cg (fun a z1 z2 => fC a (by omega)) hD, w3.cg hD, w4.cg (fC 59 (by omega)) (fM 18 (by omega) (by omega)), w5.cg (fC 54 (by omega)) (fM 17 (by omega) (by omega)), by rw [fC 121 (by omega), fM 48 (by omega) (by omega)]; exact w6, ⟨⟨k, cols, k1, k2, by rw [fC 90 (by omega)]; exact k3, by rw [f0 75 (by omega) (by omega)]; exact k4, by rw [fC 90 (by omega)]; exact k5, by rw [f0 76 (by omega) (by omega)]; exact k6, fun x c hx hc => by rw [fC 91 (by omega), fM 56 (by omega) (by omega)]; exact k7 x c hx hc⟩, ?_, ?_, ?_, ?_, ?_, p, p1, ?_, ?_, ?_⟩, hB⟩
  · rw [fC 90 (by omega), f0 78 (by omega) (by omega)]; exact l2
  · rw [fC 90 (by omega), f0 79 (by omega) (by omega)]; exact l3
  · rw [fC 90 (by omega), f0 80 (by omega) (by omega)]; exact l4
  · rw [fC 90 (by omega), f0 81 (by omega) (by omega)]; exact l5
  · rw [fC 90 (by omega), f0 82 (by omega) (by omega)]; exact l6
  · rw [fC 90 (by omega)]; exact p2
  · rw [f0 83 (by omega) (by omega)]; exact p3
  · rw [fC 93 (by omega), fC 94 (by omega), fM 57 (by omega) (by omega)]; exact p4
theorem step_call (h : REL M m t u) : OUT kmI t u (f_X10_step fu p1 p2 p3 p4 p5 p6 M) (f_X11_step fu p1 p2 p3 p4 p5 p6 m) := by
  have hs0 := step0 (p1 := p1) (p4 := p4) (p5 := p5) (p6 := p6)
  rcases idx 6 (by omega) p2 with h1 | ⟨s, hs, rfl⟩
  · refine OUT.same (k := 1) (v := 0) (p1 := 0) h (by omega) ?_ ?_ (fun hk => by omega)
    · simp only [f_X10_step, needI6, h1, if_true, bx_1, xer]
    · simp only [f_X11_step, hs0, nm_d, isSource0, h1, if_true, up_s, le10, if_false]
      rfl
  have g1 := good (b := 6) (by omega) hs
  by_cases h2 : f_X10_isStep p1 p4 p5 p6 = 0
  · refine OUT.same (k := 2) (v := 0) (p1 := 0) h (by omega) ?_ ?_ (fun hk => by omega)
    · simp only [f_X10_step, needI6, g1, if_false, bx_0, f_X10_needArgument, h2, if_true, bx_2, xer]
    · simp only [f_X11_step, hs0, nm_d, isSource0, g1, if_false, h2, if_true, up_s, le20]
      rfl
  obtain ⟨RR, nS, nL, nC, nO, w1, w2, w3, w4, w5, w6, w7, q, b1, b2, b3, b4⟩ := id h
  obtain ⟨q1, q2⟩ := m4 b1
  by_cases hn : q = 4
  · refine OUT.same (k := 3) (v := 0) (p1 := 0) h (by omega) ?_ ?_ (fun hk => by omega)
    · simp only [f_X10_step, needI6, g1, if_false, bx_0, f_X10_needArgument, h2, nm_d, b2, eq_true (q1 ▸ hn), if_true, f_X10_needState, bx_3, xer]
    · simp only [f_X11_step, hs0, nm_d, isSource0, g1, if_false, h2, b3, eq_true (q2 ▸ hn), if_true, up_s, le30]
      rfl
  obtain ⟨f1, f2⟩ := p1m1 (q := q)
  have f3 : nI q * 4 = nI (4 * q) := by rw [show (4 : Int32) = nI 4 from rfl, pk_mul, Nat.mul_comm]
  have f4 : nI (4 * q) + 1 = nI (4 * q + 1) := by rw [show (1 : Int32) = nI 1 from rfl, nI_add]
  have f5 : nI (4 * q) + 2 = nI (4 * q + 2) := by rw [show (2 : Int32) = nI 2 from rfl, nI_add]
  have f6 : nI (4 * q) + 3 = nI (4 * q + 3) := by rw [show (3 : Int32) = nI 3 from rfl, nI_add]
  have eM : f_X11_step fu p1 (nI s) p3 p4 p5 p6 m = some (nI (q + 1), up (up (up (up (up (up (up (up m 0 0 0) 58 q p1) 59 q (nI s)) 60 q p3) 61 q p4) 62 q p5) 63 q p6) 0 85 (nI (q + 1))) := by
    simp (disch := omega) only [f_X11_step, hs0, nm_d, isSource0, g1, if_false, h2, b3, q2, hn, up_s, Int32.le_refl, if_true, up_m, up_n, inb_nI, grd_true, nI_clamp, f1]
  generalize hm' : up (up (up (up (up (up (up (up m 0 0 0) 58 q p1) 59 q (nI s)) 60 q p3) 61 q p4) 62 q p5) 63 q p6) 0 85 (nI (q + 1)) = m' at *
  have hd : ∀ a, a ≠ 0 → a < 58 ∨ 63 < a → m' a = m a := fun a z1 z2 => by rw [← hm', up_n z1, up_n (by omega), up_n (by omega), up_n (by omega), up_n (by omega), up_n (by omega), up_n (by omega), up_n z1]
  have hd0 : ∀ j, j ≠ 0 → j ≠ 85 → m' 0 j = m 0 j := fun j z1 z2 => by rw [← hm', up_m z2, up_n (by omega), up_n (by omega), up_n (by omega), up_n (by omega), up_n (by omega), up_n (by omega), up_m z1]
  have eC : f_X10_step fu p1 (nI s) p3 p4 p5 p6 M = some (0, nI (q + 1), up (up (up (up (up (up (up (up M 123 q p1) 124 q (nI s)) 125 (4 * q) p3) 125 (4 * q + 1) p4) 125 (4 * q + 2) p5) 125 (4 * q + 3) p6) 126 q 0) 122 9 (nI (q + 1))) := by
    simp (disch := omega) only [f_X10_step, needI6, g1, if_false, bx_0, f_X10_needArgument, h2, nm_d, b2, q1, hn, f_X10_needState, i10, f_X2_addStep, f3, f4, f5, f6, inb_nI, grd_true, nI_clamp, up_n, f1, up_s, bm_some]
  generalize hM' : up (up (up (up (up (up (up (up M 123 q p1) 124 q (nI s)) 125 (4 * q) p3) 125 (4 * q + 1) p4) 125 (4 * q + 2) p5) 125 (4 * q + 3) p6) 126 q 0) 122 9 (nI (q + 1)) = M' at *
  have hD : ∀ a, a < 122 ∨ 126 < a → M' a = M a := fun a z => by rw [← hM', up_n (by omega), up_n (by omega), up_n (by omega), up_n (by omega), up_n (by omega), up_n (by omega), up_n (by omega), up_n (by omega)]
  refine ⟨0, nI (q + 1), M', nI (q + 1), m', t, u, eC, eM, ?_, fun _ => rfl, by decide, Nat.le_refl _, by omega, Nat.le_refl _, by omega, h.bb hD hd hd0 ⟨q + 1, by omega, ?_, ?_, fun i hi => ?_⟩⟩
  · rw [← hm', up_m (by omega), up_n (by omega), up_n (by omega), up_n (by omega), up_n (by omega), up_n (by omega), up_n (by omega), up_s]; rfl
  · rw [← hM', up_s]
  · rw [← hm', up_s]
  · rw [← hM', ← hm']
    by_cases hin : i = q
    · subst hin
      simp (disch := omega) only [up_n, up_m, up_s]
      exact ⟨trivial, trivial, ⟨s, hs, rfl⟩, kinds h2, trivial, trivial, trivial, trivial, trivial⟩
    · simp (disch := omega) only [up_n, up_m]
      exact b4 i (by omega)
/-- a try of a step -/
theorem try0 (hfu : 5000 ≤ fu) (hk : KR M m t u) (ht : t < 2 ^ 29 - 100) (hj : j < 3) : ∃ M1 N n t' r, f_X8_awaitQuota fu (nI j) M = some M1 ∧ f_X8_attempt fu (nI j) M1 = some ((if r = true then 1 else 0), N) ∧ f_X11_tries fu (nI j) 0 m = some ((if r = true then 2 else 1), n) ∧ t ≤ t' ∧ t' ≤ t + 40 ∧ KR N n t' u ∧ FCt N M ∧ FMt n m := by
  rw [tries0 hj]
  refine await2 (K := fun n => bd (mtry fu j n) (fin j)) (R := fun X => ∃ M1 N n t' r, f_X8_awaitQuota fu (nI j) M = some M1 ∧ f_X8_attempt fu (nI j) M1 = some ((if r = true then 1 else 0), N) ∧ X = some ((if r = true then 2 else 1), n) ∧ t ≤ t' ∧ t' ≤ t + 40 ∧ KR N n t' u ∧ FCt N M ∧ FMt n m) hfu hk (by omega) hj ?_
  intro N n t1 h1 h2 hk1 fC fM e1
  obtain ⟨N2, n2, n2', t2, r, k1, k2, k3, k4, k5, k6, k7, k8, k9⟩ := attempt2 (fu := fu) hfu hk1 (by omega) hj
  have fC' : FCt N2 M := fun a z1 z2 z3 z4 z5 z6 => by rw [k7 a z1 z2 z3 z4 z5 z6, fC a z1 z2 z3]
  have fM' : FMt n2 m := ⟨fun a z1 z2 z3 z4 z5 => by rw [(k8 a z1 z2 z3 z4 z5).1, fM.1 a z1 z2], fun j z1 z2 => by rw [(k9 j z1 z2).1, fM.2 j z1 z2]⟩
  rcases k5 with ⟨y1, y2, y3⟩ | ⟨y1, y2, y3⟩
  · refine ⟨N, N2, n2, t2, true, e1, by rw [k1, y3]; rfl, ?_, by omega, by omega, k6, fC', fM'⟩
    simp only [k2, bd_some, fin, y1, if_true, y2]
  · refine ⟨N, N2, n2, t2, false, e1, by rw [k1, y3]; rfl, ?_, by omega, by omega, k6, fC', fM'⟩
    simp only [k2, bd_some, fin, y1, if_false, y2]
    rfl
end StepB
