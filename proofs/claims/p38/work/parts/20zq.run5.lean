/-! ===== a step's request: the law, the reference ===== -/
section Run5
variable {fu t u t1 u1 k0 s i j p c k q y : Nat} {M m N n P MC : Mem} {A B : Nat → List Row} {v x x3 x4 x14 : Int32} {H : Nat → Nat → List Row} {K : Int32 → Int32 → Mem → Option (Int32 × Mem)} {b : Bool}
theorem its2 : (if (true : Bool) = true then (2 : Int32) else 1) = 2 ∧ (if (false : Bool) = true then (2 : Int32) else 1) = 1 := by decide
/-- at the end of the tries -/
theorem end3L (q1 : Nat) (x18 x19 : Int32) : f_L_runs_L83 fu v x (nI j) K (q1 + 1) x14 x18 x19 (nI 3) M = K x14 x19 M := by
  rw [f_L_runs_L83, if_pos (show (3 : Int32) ≤ nI 3 by decide)]
theorem end2L (hy : y < 3) (q1 : Nat) (x18 : Int32) : f_L_runs_L83 fu v x (nI j) K (q1 + 1) x14 x18 2 (nI (y + 1)) M = K x14 2 M := by
  rw [f_L_runs_L83]
  by_cases h : (3 : Int32) ≤ nI (y + 1)
  · rw [if_pos h]
  · rw [if_neg h, if_neg (by decide)]
theorem tryL (hy : y < 3) {w : Int32} (h : f_L_attempt fu (nI j) 0 M = some (w, N)) (q1 : Nat) : f_L_runs_L83 fu v x (nI j) K (q1 + 1) x14 1 1 (nI y) M = f_L_runs_L83 fu v x (nI j) K q1 x14 1 w (nI (y + 1)) N := by
  have h3 : ¬ (3 : Int32) ≤ nI y := by rw [show (3 : Int32) = nI 3 from rfl, nI_leI (by omega) (by omega)]; omega
  rw [f_L_runs_L83, if_neg h3, if_pos rfl, h, bm_some, if_neg (by decide), nm_d, show nI y + 1 = nI (y + 1) from nI_add y 1]
/-- done before -/
theorem reqDL (hfu : 5000 ≤ fu) (hi : i < 4) (hj : j < 3) : ∀ d y q1 q2 (M m MC : Mem) (t : Nat), y + d = 3 → d < q1 → d < q2 → RNL M m MC t u q (i + 1) H → t + 40 * d < 2 ^ 26 → ∃ N n NC t' b, f_L_runs_L83 fu v x (nI j) K q1 x14 1 1 (nI y) M = K x14 (if b = true then 2 else 1) N ∧ f_X11_runs_L18 fu (nI i) (nI j) KM q2 1 x4 (nI y) m = some ((if b = true then 2 else 1), n) ∧ RNL N n NC t' u q (i + 1) H ∧ t ≤ t' ∧ t' ≤ t + 40 * d ∧ (∀ a, a < 142 → N a = M a) := by
  intro d
  induction d with
  | zero =>
    intro y q1 q2 M m MC t h1 h2 h3 hR ht
    obtain ⟨q1, rfl⟩ := fu1 h2
    obtain ⟨q2, rfl⟩ := fu1 h3
    obtain rfl : y = 3 := by omega
    exact ⟨M, m, MC, t, false, by rw [end3L]; rfl, by rw [end3M]; rfl, hR, Nat.le_refl _, by omega, fun _ _ => rfl⟩
  | succ d ih =>
    intro y q1 q2 M m MC t h1 h2 h3 hR ht
    obtain ⟨q1, rfl⟩ := fu1 h2
    obtain ⟨q2, rfl⟩ := fu1 h3
    obtain ⟨N, n, NC, t1, b, e1, e2, e3', e4, e5, e6, _, _⟩ := hR.att hfu hj (by omega)
    rw [tryL (by omega) e1, reqM1 hj (by omega) e2, if_neg (show ¬ (1 : Int32) = 0 by decide)]
    cases b with
    | true =>
      obtain ⟨q1, rfl⟩ := fu1 (show 0 < q1 by omega)
      refine ⟨N, n, NC, t1, true, by rw [its2.1, end2L (by omega)], ?_, e5, e3', by omega, e6⟩
      simp only [k82, if_true]
      rw [if_neg (by decide)]
    | false =>
      obtain ⟨N2, n2, NC2, t2, b2, f1, f2, f3, f4, f5, f6⟩ := ih (y + 1) q1 q2 N n NC t1 (by omega) (by omega) (by omega) e5 (by omega)
      refine ⟨N2, n2, NC2, t2, b2, by rw [its2.2]; exact f1, ?_, f3, by omega, by omega, fun a ha => by rw [f6 a ha, e6 a ha]⟩
      simp only [k82]
      rw [if_neg (by decide)]
      exact f2
/-- it can't be done -/
theorem reqRL (hfu : 5000 ≤ fu) (hj : j < 3) : ∀ d y q1 q2 (M m MC : Mem) (t : Nat), y + d = 3 → d < q1 → d < q2 → RNL M m MC t u q i H → t + 40 * d < 2 ^ 26 → ∃ N n NC t' w, f_L_runs_L83 fu v x (nI j) K q1 x14 1 1 (nI y) M = K x14 w N ∧ f_X11_runs_L18 fu (nI i) (nI j) KM q2 0 1 (nI y) m = some (0, n) ∧ RNL N n NC t' u q i H ∧ t ≤ t' ∧ t' ≤ t + 40 * d ∧ (∀ a, a < 142 → N a = M a) := by
  intro d
  induction d with
  | zero =>
    intro y q1 q2 M m MC t h1 h2 h3 hR ht
    obtain ⟨q1, rfl⟩ := fu1 h2
    obtain ⟨q2, rfl⟩ := fu1 h3
    obtain rfl : y = 3 := by omega
    exact ⟨M, m, MC, t, _, end3L _ _ _, by rw [end3M]; rfl, hR, Nat.le_refl _, by omega, fun _ _ => rfl⟩
  | succ d ih =>
    intro y q1 q2 M m MC t h1 h2 h3 hR ht
    obtain ⟨q1, rfl⟩ := fu1 h2
    obtain ⟨q2, rfl⟩ := fu1 h3
    obtain ⟨N, n, NC, t1, b, e1, e2, e3', e4, e5, e6, _, _⟩ := hR.att hfu hj (by omega)
    rw [tryL (by omega) e1, reqM1 hj (by omega) e2, if_pos rfl, if_neg (show ¬ (1 : Int32) = 0 by decide)]
    cases b with
    | true =>
      obtain ⟨q1, rfl⟩ := fu1 (show 0 < q1 by omega)
      refine ⟨N, n, NC, t1, 2, by rw [its2.1, end2L (by omega)], ?_, e5, e3', by omega, e6⟩
      simp only [k82, if_true]
    | false =>
      obtain ⟨N2, n2, NC2, t2, b2, f1, f2, f3, f4, f5, f6⟩ := ih (y + 1) q1 q2 N n NC t1 (by omega) (by omega) (by omega) e5 (by omega)
      refine ⟨N2, n2, NC2, t2, b2, by rw [its2.2]; exact f1, ?_, f3, by omega, by omega, fun a ha => by rw [f6 a ha, e6 a ha]⟩
      simp only [k82]
      rw [if_neg (by decide)]
      exact f2
theorem CAN.cg' (h : ¬ CAN m A s j) (hM : FMt n m) : ¬ CAN n A s j := fun z => h (z.cg hM)
/-- all tries of a step -/
theorem reqFL (hfu : 5000 ≤ fu) (hi : i < q) (hq : q ≤ 4) (hs : s < 6) (hu : u < 62) : ∀ d y q1 q2 (M m MC : Mem) (t : Nat), y + d = 3 → d < q1 → d < q2 → RNL M m MC t u q i H → m 59 i = nI s → t + 40 * d < 2 ^ 26 → ∃ N n NC t' w rm, f_X11_runs_L18 fu (nI i) (nI (s / 2)) KM q2 0 0 (nI y) m = some (rm, n) ∧ ((rm = 0 ∧ f_L_runs_L83 fu (nI i) (nI s) (nI (s / 2)) K q1 x14 0 1 (nI y) M = K x14 w N ∧ RNL N n NC t' u q i H) ∨ ∃ H', f_L_runs_L83 fu (nI i) (nI s) (nI (s / 2)) K q1 x14 0 1 (nI y) M = K (nI i) w N ∧ RNL N n NC t' (u + 1) q (i + 1) H' ∧ (rm = 2 ∧ w = 2 ∨ rm = 1 ∧ w = 1)) ∧ t ≤ t' ∧ t' ≤ t + 40 * d ∧ (∀ a, a < 142 → N a = M a) := by
  have hj : s / 2 < 3 := by omega
  intro d
  induction d with
  | zero =>
    intro y q1 q2 M m MC t h1 h2 h3 hR h59 ht
    obtain ⟨q1, rfl⟩ := fu1 h2
    obtain ⟨q2, rfl⟩ := fu1 h3
    obtain rfl : y = 3 := by omega
    exact ⟨M, m, MC, t, 1, 0, by rw [end3M]; rfl, Or.inl ⟨rfl, end3L _ _ _, hR⟩, Nat.le_refl _, by omega, fun _ _ => rfl⟩
  | succ d ih =>
    intro y q1 q2 M m MC t h1 h2 h3 hR h59 ht
    obtain ⟨q1, rfl⟩ := fu1 h2
    obtain ⟨q2, rfl⟩ := fu1 h3
    have hy3 : ¬ (3 : Int32) ≤ nI y := by rw [show (3 : Int32) = nI 3 from rfl, nI_leI (by omega) (by omega)]; omega
    have ey : nI y + 1 = nI (y + 1) := nI_add y 1
    have e18 : (18 : Int32) + nI (s / 2) = nI (18 + s / 2) := nI_add 18 (s / 2)
    obtain ⟨N, n, NC, t1, b, e1, e2, e3', e4, e5, e6, e7, e8⟩ := hR.att hfu hj (by omega)
    have h59' : n 59 i = nI s := by rw [e7.1 59 (by omega) (by omega) (by omega) (by omega) (by omega)]; exact h59
    -- the law up to the step
    have eL : f_L_runs_L83 fu (nI i) (nI s) (nI (s / 2)) K (q1 + 1) x14 0 1 (nI y) M = if b = false ∧ n 12 (s / 2) = 0 then f_L_runs_L83 fu (nI i) (nI s) (nI (s / 2)) K q1 x14 0 1 (nI (y + 1)) N else bm (f_L_does fu (nI i) N) (fun r_84 M_85 => if r_84 = 0 then f_L_runs_L83 fu (nI i) (nI s) (nI (s / 2)) K q1 x14 1 (if b = true then 2 else 1) (nI (y + 1)) M_85 else bd (f_L_written fu (nI s) M_85) (fun M_89 => f_L_runs_L83 fu (nI i) (nI s) (nI (s / 2)) K q1 (nI i) 1 (if b = true then 2 else 1) (nI (y + 1)) M_89)) := by
      rw [f_L_runs_L83, if_neg hy3, if_pos rfl, e1, bm_some, if_pos rfl]
      cases b with
      | true => simp (decide := true) only [its2, jn_d, nm_d, ey, if_false, false_and]
      | false =>
        simp (disch := omega) only [its2, jn_d, nm_d, ey, if_true, true_and, e18, inb_nI, grd_true, nI_clamp, e8]
    rw [eL, reqM1 hj (by omega) e2, if_pos rfl, if_pos rfl]
    by_cases hb : b = false ∧ n 12 (s / 2) = 0
    · rw [if_pos hb, if_pos hb]
      obtain ⟨rfl, _⟩ := hb
      obtain ⟨N2, n2, NC2, t2, w, rm, f1, f2, f4, f5, f6⟩ := ih (y + 1) q1 q2 N n NC t1 (by omega) (by omega) (by omega) e5 h59' (by omega)
      refine ⟨N2, n2, NC2, t2, w, rm, ?_, f2, by omega, by omega, fun a ha => by rw [f6 a ha, e6 a ha]⟩
      simp only [k82]
      rw [if_neg (by decide)]
      exact f1
    · rw [if_neg hb, if_neg hb]
      rcases e5.step hfu hi hq hs h59' (by omega) hu with ⟨N1, N2, n2, NC2, B, d1, d2, d3, d4, d5, d6⟩ | ⟨d1, d2, d3⟩
      · rw [d1, bm_some, if_neg (by decide), d2, bd_some, d3, bd_some, if_neg (by decide), d4, bd_some]
        cases b with
        | true =>
          obtain ⟨q1, rfl⟩ := fu1 (show 0 < q1 by omega)
          refine ⟨N2, n2, NC2, t1, 2, 2, ?_, Or.inr ⟨_, by rw [its2.1, end2L (by omega)], d5, Or.inl ⟨rfl, rfl⟩⟩, e3', by omega, fun a ha => by rw [d6 a ha, e6 a ha]⟩
          simp only [k82, if_true]
          rw [if_neg (by decide)]
        | false =>
          obtain ⟨N3, n3, NC3, t2, b2, f1, f2, f3, f4, f5, f6⟩ := reqDL (fu := fu) (v := nI i) (x := nI s) (x14 := nI i) (x4 := 0) (K := K) hfu (show i < 4 by omega) hj d (y + 1) q1 q2 N2 n2 NC2 t1 (by omega) (by omega) (by omega) d5 (by omega)
          refine ⟨N3, n3, NC3, t2, (if b2 = true then 2 else 1), (if b2 = true then 2 else 1), ?_, Or.inr ⟨_, by rw [its2.2]; exact f1, f3, by cases b2 <;> simp⟩, by omega, by omega, fun a ha => by rw [f6 a ha, d6 a ha, e6 a ha]⟩
          simp only [k82]
          rw [if_neg (by decide)]
          exact f2
      · rw [d1, bm_some, if_pos rfl, d2, bd_some, if_pos rfl]
        cases b with
        | true =>
          obtain ⟨q1, rfl⟩ := fu1 (show 0 < q1 by omega)
          refine ⟨N, n, NC, t1, 2, 0, ?_, Or.inl ⟨rfl, by rw [its2.1, end2L (by omega)], e5⟩, e3', by omega, e6⟩
          simp only [k82, if_true]
        | false =>
          obtain ⟨N3, n3, NC3, t2, w, f1, f2, f3, f4, f5, f6⟩ := reqRL (fu := fu) (v := nI i) (x := nI s) (x14 := x14) (K := K) (i := i) hfu hj d (y + 1) q1 q2 N n NC t1 (by omega) (by omega) (by omega) e5 (by omega)
          refine ⟨N3, n3, NC3, t2, w, 0, ?_, Or.inl ⟨rfl, by rw [its2.2]; exact f1, f3⟩, by omega, by omega, fun a ha => by rw [f6 a ha, e6 a ha]⟩
          simp only [k82]
          rw [if_neg (by decide)]
          exact f2
end Run5
