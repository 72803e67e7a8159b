/-! ===== a step's request: its tries, both ===== -/
section TriesB
variable {fu nS nL nC nO i j s t u e p c k q y : Nat} {M m N n P o : Mem} {A B : Nat → List Row} {x x3 x4 : Int32} {H : Nat → Nat → List Row} {b : Bool}
def k74 (fu : Nat) (i j y q : Nat) (b : Bool) (M : Mem) : Option (Int32 × Mem) := if b = true then some (M 126 i, M) else f_X2_request_L12 fu (nI i) (nI j) q (nI (y + 1)) M
def KM : Int32 → Mem → Option (Int32 × Mem) := fun (x3_4 : Int32) (M_5 : Mem) => (if x3_4 = 0 then some (0, M_5) else some (1, M_5))
def k82 (fu : Nat) (i j y q : Nat) (b : Bool) (x3 x4 : Int32) (m : Mem) : Option (Int32 × Mem) := if b = true then (if x3 = 0 then some (0, m) else some (2, m)) else f_X11_runs_L18 fu (nI i) (nI j) KM q x3 x4 (nI (y + 1)) m
theorem reqC1 {M1 : Mem} (hi : i < 4) (hj : j < 3) (hy : y < 3) (h1 : f_X8_awaitQuota fu (nI j) M = some M1) (h2 : f_X8_attempt fu (nI j) M1 = some ((if b = true then 1 else 0), N)) (h3 : N 126 i = 0 ∨ N 126 i = 1) (hstep : N 126 i = 0 → f_X2_canStep fu (nI i) N ≠ some 0 → ∀ N', f_X2_doStep fu (nI i) N = some N' → N' 126 i = 1) : f_X2_request_L12 fu (nI i) (nI j) (q + 1) (nI y) M = if N 126 i = 0 then (if b = false ∧ N 53 j = 0 then k74 fu i j y q b N else bd (f_X2_canStep fu (nI i) N) (fun r_20 => if r_20 = 0 then k74 fu i j y q b N else bd (f_X2_doStep fu (nI i) N) (fun M_23 => k74 fu i j y q b M_23))) else k74 fu i j y q b N := by
  have hy3 : ¬ (3 : Int32) ≤ nI y := by rw [lit, nI_leI (by omega) (by omega)]; omega
  have hy1 : nI y + 1 = nI (y + 1) := nI_add y 1
  have hb : isb (N 126 i) = true := by rcases h3 with h | h <;> rw [h] <;> decide
  have hS : N 126 i = 0 → f_X2_canStep fu (nI i) N ≠ some 0 → ∀ N', f_X2_doStep fu (nI i) N = some N' → isb (N' 126 i) = true := fun y0 y1 N' hN => by rw [hstep y0 y1 N' hN]; decide
  simp (disch := omega) only [f_X2_request_L12, if_neg hy3, h1, h2, bd_some, bm_some, inb_nI, grd_true, nI_clamp, jn_d, nm_d, hy1]
  have nt : (true = false) = False := by decide
  have ft : (false = true) = False := by decide
  cases b
  · simp only [ft, if_false, if_true, k74, true_and]
  · simp only [if_true, k74, nt, false_and, if_false, n10, hb, grd_true]
    by_cases z0 : N 126 i = 0
    · rw [if_pos z0, if_pos z0]
      cases hcan : f_X2_canStep fu (nI i) N with
      | none => rfl
      | some r =>
        rw [bd_some, bd_some]
        by_cases zr : r = 0
        · rw [if_pos zr, if_pos zr]
        · rw [if_neg zr, if_neg zr]
          cases hd : f_X2_doStep fu (nI i) N with
          | none => rfl
          | some N' => rw [bd_some, bd_some, hS z0 (by rw [hcan]; intro y; exact zr (Option.some.inj y)) N' hd, grd_true]
    · rw [if_neg z0, if_neg z0]
theorem reqM1 (hj : j < 3) (hy : y < 3) (h1 : f_X11_tries fu (nI j) 0 m = some ((if b = true then 2 else 1), n)) : f_X11_runs_L18 fu (nI i) (nI j) KM (q + 1) x3 x4 (nI y) m = if x3 = 0 then (if x4 = 0 then (if b = false ∧ n 12 j = 0 then k82 fu i j y q b x3 x4 n else bd (f_X11_canStep fu (nI i) n) (fun r_26 => if r_26 = 0 then k82 fu i j y q b r_26 1 n else bd (f_X11_doesStep fu (nI i) n) (fun M_31 => k82 fu i j y q b r_26 0 M_31))) else k82 fu i j y q b x3 x4 n) else k82 fu i j y q b x3 x4 n := by
  have hy3 : ¬ (3 : Int32) ≤ nI y := by rw [lit, nI_leI (by omega) (by omega)]; omega
  have hy1 : nI y + 1 = nI (y + 1) := nI_add y 1
  have nt : (true = false) = False := by decide
  have ft : (false = true) = False := by decide
  have n12 : ((1 : Int32) = 2) = False := by decide
  have n22 : ((2 : Int32) = 2) = True := eq_self 2
  have e1 : inb (nI j) 3 = true := inb_nI hj (by omega)
  have e2 : (nI j).toNatClampNeg = j := nI_clamp (by omega)
  rw [f_X11_runs_L18, if_neg hy3, h1, bm_some]
  cases b
  · simp only [jn_d, nm_d, hy1, e1, e2, grd_true, ft, if_false, if_true, k82, true_and, n12]
    by_cases z0 : x3 = 0
    · rw [if_pos z0, if_pos z0]
      by_cases z1 : x4 = 0
      · rw [if_pos z1, if_pos z1]
        by_cases z2 : n 12 j = 0
        · rw [if_pos z2, if_pos z2]
        · rw [if_neg z2, if_neg z2]
          cases hcan : f_X11_canStep fu (nI i) n with
          | none => rfl
          | some r =>
            rw [bd_some, bd_some]
            by_cases zr : r = 0
            · rw [if_pos zr, if_pos zr, if_pos zr]
            · rw [if_neg zr, if_neg zr, if_neg zr]
      · rw [if_neg z1, if_neg z1]
    · rw [if_neg z0, if_neg z0]
  · simp only [jn_d, nm_d, hy1, if_true, k82, nt, false_and, if_false, n22]
theorem end3C (q : Nat) : f_X2_request_L12 fu (nI i) (nI j) (q + 1) (nI 3) M = some (0, M) := by
  simp (disch := omega) only [f_X2_request_L12, lit, nI_add, pk_mul, pk_sub, nI_clamp, inb_nI, nI_leI, nI_ltI, nI_eq, add_m1, ↓reduceIte, grd_true, nm_d, jn_d, bd_some, bm_some, om_some, om_none, Nat.le_refl]
theorem end3M (q : Nat) : f_X11_runs_L18 fu (nI i) (nI j) KM (q + 1) x3 x4 (nI 3) m = KM x3 m := by
  simp (disch := omega) only [f_X11_runs_L18, lit, nI_add, pk_mul, pk_sub, nI_clamp, inb_nI, nI_leI, nI_ltI, nI_eq, add_m1, ↓reduceIte, grd_true, nm_d, jn_d, bd_some, bm_some, om_some, om_none, Nat.le_refl]
theorem reqD (hfu : 5000 ≤ fu) (hi : i < 4) (hj : j < 3) : ∀ d y q1 q2 (M m : Mem) (t : Nat), y + d = 3 → d < q1 → d < q2 → RUN M m t u q (i + 1) H → t + 40 * d < 2 ^ 29 - 100 → ∃ N n t' b, f_X2_request_L12 fu (nI i) (nI j) q1 (nI y) M = some ((if b = true then 1 else 0), N) ∧ f_X11_runs_L18 fu (nI i) (nI j) KM q2 1 x4 (nI y) m = some ((if b = true then 2 else 1), n) ∧ RUN N n t' u q (i + 1) H ∧ t ≤ t' ∧ t' ≤ t + 40 * d ∧ FCv N M ∧ FMv n m := by
  intro d
  induction d with
  | zero =>
    intro y q1 q2 M m t h1 h2 h3 hR ht
    obtain ⟨q1, rfl⟩ := fu1 h2
    obtain ⟨q2, rfl⟩ := fu1 h3
    obtain rfl : y = 3 := by omega
    exact ⟨M, m, t, false, end3C q1, by rw [end3M]; rfl, hR, Nat.le_refl _, by omega, .rfl, .rfl⟩
  | succ d ih =>
    intro y q1 q2 M m t h1 h2 h3 hR ht
    obtain ⟨q1, rfl⟩ := fu1 h2
    obtain ⟨q2, rfl⟩ := fu1 h3
    obtain ⟨M1, N, n, t1, b, a1, a2, a3, a4, a5, a6, a7, a8⟩ := try0 (fu := fu) (j := j) hfu hR.1.1 (by omega) hj
    have hR1 := hR.tr a6 a7 a8
    have h126 : N 126 i = 1 := (hR1.2.2.1 i (by omega)).1
    have hn : ¬ N 126 i = 0 := by rw [h126]; decide
    rw [reqC1 hi hj (by omega) a1 a2 (Or.inr h126) (fun y => absurd y hn), reqM1 hj (by omega) a3, if_neg hn, if_neg (show ¬ (1 : Int32) = 0 by decide)]
    cases b
    · obtain ⟨N2, n2, t2, b, e1, e2, e3, e4, e5, e6, e7⟩ := ih (y + 1) q1 q2 N n t1 (by omega) (by omega) (by omega) hR1 (by omega)
      exact ⟨N2, n2, t2, b, e1, e2, e3, by omega, by omega, e6.trans a7.vv, e7.trans a8.vv⟩
    · refine ⟨N, n, t1, true, ?_, rfl, hR1, a4, by omega, a7.vv, a8.vv⟩
      show some (N 126 i, N) = _
      rw [h126]; rfl
theorem reqR (hfu : 5000 ≤ fu) (hi : i < q) (hq : q ≤ 4) (hj : j < 3) (hs : s < 6) (hu : u < 2 ^ 29) : ∀ d y q1 q2 (M m : Mem) (t : Nat), y + d = 3 → d < q1 → d < q2 → RUN M m t u q i H → m 59 i = nI s → ¬ CAN m (H i) s i → t + 40 * d < 2 ^ 29 - 100 → ∃ N n t', f_X2_request_L12 fu (nI i) (nI j) q1 (nI y) M = some (0, N) ∧ f_X11_runs_L18 fu (nI i) (nI j) KM q2 0 1 (nI y) m = some (0, n) ∧ RUN N n t' u q i H ∧ t ≤ t' ∧ t' ≤ t + 40 * d ∧ FCv N M ∧ FMv n m := by
  intro d
  induction d with
  | zero =>
    intro y q1 q2 M m t h1 h2 h3 hR k59 hcan ht
    obtain ⟨q1, rfl⟩ := fu1 h2
    obtain ⟨q2, rfl⟩ := fu1 h3
    obtain rfl : y = 3 := by omega
    exact ⟨M, m, t, end3C q1, by rw [end3M]; rfl, hR, Nat.le_refl _, by omega, .rfl, .rfl⟩
  | succ d ih =>
    intro y q1 q2 M m t h1 h2 h3 hR k59 hcan ht
    obtain ⟨q1, rfl⟩ := fu1 h2
    obtain ⟨q2, rfl⟩ := fu1 h3
    obtain ⟨M1, N, n, t1, b, a1, a2, a3, a4, a5, a6, a7, a8⟩ := try0 (fu := fu) (j := j) hfu hR.1.1 (by omega) hj
    have hR1 := hR.tr a6 a7 a8
    have h126 : N 126 i = 0 := hR1.2.2.2 i (Nat.le_refl _) hi
    have k59' : n 59 i = nI s := by rw [a8.1 59 (by omega) (by omega) (by omega) (by omega) (by omega)]; exact k59
    have hcan' : ¬ CAN n (H i) s i := fun z => hcan (z.cg a8)
    have hc0 : f_X2_canStep fu (nI i) N = some 0 := by
      rcases hR1.step hfu hi hq hs k59' (by omega) hu with ⟨_, _, _, c1, _⟩ | ⟨_, c1, _⟩
      · obtain ⟨b1, b2, b3, b4, b5, b6, b7, b8⟩ := hR1.2.1 i hi
        rcases can2 hfu hR1.1 (show i < 4 by omega) hs k59' (by rw [b2]; exact k59') b1 b4 b5 b6 b7 b8 with ⟨c0, _⟩ | ⟨c1, _⟩
        · exact absurd c0 hcan'
        · exact c1
      · exact c1
    rw [reqC1 (by omega) hj (by omega) a1 a2 (Or.inl h126) (fun _ y => absurd hc0 y), reqM1 hj (by omega) a3, if_pos h126, if_pos (show (0 : Int32) = 0 from rfl), if_neg (show ¬ (1 : Int32) = 0 by decide), hc0, bd_some, if_pos rfl, ite_self]
    cases b
    · obtain ⟨N2, n2, t2, e1, e2, e3, e4, e5, e6, e7⟩ := ih (y + 1) q1 q2 N n t1 (by omega) (by omega) (by omega) hR1 k59' hcan' (by omega)
      exact ⟨N2, n2, t2, e1, e2, e3, by omega, by omega, e6.trans a7.vv, e7.trans a8.vv⟩
    · refine ⟨N, n, t1, ?_, rfl, hR1, a4, by omega, a7.vv, a8.vv⟩
      show some (N 126 i, N) = _
      rw [h126]
theorem reqF (hfu : 5000 ≤ fu) (hi : i < q) (hq : q ≤ 4) (hj : j < 3) (hs : s < 6) (hu : u < 2 ^ 29) : ∀ d y q1 q2 (M m : Mem) (t : Nat), y + d = 3 → d < q1 → d < q2 → RUN M m t u q i H → m 59 i = nI s → t + 40 * d < 2 ^ 29 - 100 → ∃ N n t' rc rm, f_X2_request_L12 fu (nI i) (nI j) q1 (nI y) M = some (rc, N) ∧ f_X11_runs_L18 fu (nI i) (nI j) KM q2 0 0 (nI y) m = some (rm, n) ∧ ((rc = 0 ∧ rm = 0 ∧ RUN N n t' u q i H) ∨ ∃ H', H' 0 = H 0 ∧ RUN N n t' (u + 1) q (i + 1) H' ∧ (rc = 1 ∧ rm = 2 ∨ rc = 0 ∧ rm = 1)) ∧ t ≤ t' ∧ t' ≤ t + 40 * d ∧ FCv N M ∧ FMv n m := by
  intro d
  induction d with
  | zero =>
    intro y q1 q2 M m t h1 h2 h3 hR k59 ht
    obtain ⟨q1, rfl⟩ := fu1 h2
    obtain ⟨q2, rfl⟩ := fu1 h3
    obtain rfl : y = 3 := by omega
    exact ⟨M, m, t, 0, 0, end3C q1, by rw [end3M]; rfl, Or.inl ⟨rfl, rfl, hR⟩, Nat.le_refl _, by omega, .rfl, .rfl⟩
  | succ d ih =>
    intro y q1 q2 M m t h1 h2 h3 hR k59 ht
    obtain ⟨q1, rfl⟩ := fu1 h2
    obtain ⟨q2, rfl⟩ := fu1 h3
    obtain ⟨M1, N, n, t1, b, a1, a2, a3, a4, a5, a6, a7, a8⟩ := try0 (fu := fu) (j := j) hfu hR.1.1 (by omega) hj
    have hR1 := hR.tr a6 a7 a8
    have h126 : N 126 i = 0 := hR1.2.2.2 i (Nat.le_refl _) hi
    have k59' : n 59 i = nI s := by rw [a8.1 59 (by omega) (by omega) (by omega) (by omega) (by omega)]; exact k59
    have e53 : N 53 = n 12 := hR1.1.1.2.1.2.2.2.2.2.2.1
    have hz : (0 : Int32) = 0 := rfl
    have h10 : ¬ (1 : Int32) = 0 := by decide
    rcases hR1.step hfu hi hq hs k59' (by omega) hu with ⟨N', n', B, c1, c2, c3, c4, c5, c6, c7, _⟩ | ⟨c0, c1, c2⟩
    · have hN' : N' 126 i = 1 := (c5.2.2.1 i (by omega)).1
      rw [reqC1 (by omega) hj (by omega) a1 a2 (Or.inl h126) (fun _ _ N2 h2 => by rw [c3] at h2; rw [← Option.some.inj h2]; exact hN'), reqM1 hj (by omega) a3, if_pos h126, if_pos hz, if_pos hz, c1, c2, bd_some, bd_some, if_neg h10, if_neg h10, c3, c4, bd_some, bd_some, e53]
      by_cases hd : b = false ∧ n 12 j = 0
      · rw [if_pos hd, if_pos hd]
        obtain ⟨hb, _⟩ := hd
        subst hb
        obtain ⟨N2, n2, t2, rc, rm, e1, e2, e3, e4, e5, e6, e7⟩ := ih (y + 1) q1 q2 N n t1 (by omega) (by omega) (by omega) hR1 k59' (by omega)
        exact ⟨N2, n2, t2, rc, rm, e1, e2, e3, by omega, by omega, e6.trans a7.vv, e7.trans a8.vv⟩
      · rw [if_neg hd, if_neg hd]
        cases b
        · obtain ⟨N2, n2, t2, b, e1, e2, e3, e4, e5, e6, e7⟩ := reqD (fu := fu) (x4 := 0) hfu (show i < 4 by omega) hj d (y + 1) q1 q2 N' n' t1 (by omega) (by omega) (by omega) c5 (by omega)
          refine ⟨N2, n2, t2, _, _, e1, e2, Or.inr ⟨nx H i B, nx_le (Nat.zero_le _), e3, ?_⟩, by omega, by omega, e6.trans (c6.trans a7.vv), e7.trans (c7.trans a8.vv)⟩
          cases b
          · exact Or.inr ⟨rfl, rfl⟩
          · exact Or.inl ⟨rfl, rfl⟩
        · refine ⟨N', n', t1, 1, 2, ?_, rfl, Or.inr ⟨nx H i B, nx_le (Nat.zero_le _), c5, Or.inl ⟨rfl, rfl⟩⟩, a4, by omega, c6.trans a7.vv, c7.trans a8.vv⟩
          show some (N' 126 i, N') = _
          rw [hN']
    · rw [reqC1 (by omega) hj (by omega) a1 a2 (Or.inl h126) (fun _ y => absurd c1 y), reqM1 hj (by omega) a3, if_pos h126, if_pos hz, if_pos hz, c1, c2, bd_some, bd_some, if_pos hz, if_pos hz, e53]
      by_cases hd : b = false ∧ n 12 j = 0
      · rw [if_pos hd, if_pos hd]
        obtain ⟨hb, _⟩ := hd
        subst hb
        obtain ⟨N2, n2, t2, rc, rm, e1, e2, e3, e4, e5, e6, e7⟩ := ih (y + 1) q1 q2 N n t1 (by omega) (by omega) (by omega) hR1 k59' (by omega)
        exact ⟨N2, n2, t2, rc, rm, e1, e2, e3, by omega, by omega, e6.trans a7.vv, e7.trans a8.vv⟩
      · rw [if_neg hd, if_neg hd]
        cases b
        · obtain ⟨N2, n2, t2, e1, e2, e3, e4, e5, e6, e7⟩ := reqR (fu := fu) hfu hi hq hj hs hu d (y + 1) q1 q2 N n t1 (by omega) (by omega) (by omega) hR1 k59' c0 (by omega)
          exact ⟨N2, n2, t2, 0, 0, e1, e2, Or.inl ⟨rfl, rfl, e3⟩, by omega, by omega, e6.trans a7.vv, e7.trans a8.vv⟩
        · refine ⟨N, n, t1, 0, 0, ?_, rfl, Or.inl ⟨rfl, rfl, hR1⟩, a4, by omega, a7.vv, a8.vv⟩
          show some (N 126 i, N) = _
          rw [h126]
end TriesB
