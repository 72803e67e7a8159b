/-! ===== a bundle is run: both ===== -/
def UND (M m : Mem) (t u i : Nat) (H : Nat → Nat → List Row) : Prop := WR M m t u (H i) ∧ ∀ k, k < i → M 126 k = 1 ∧ UN M m k (H k) (H (k + 1))
section RunB
variable {fu nS nL nC nO i j s t u e p c k q y : Nat} {M m N n P o : Mem} {A B RR' : Nat → List Row} {x x2 x3 x4 : Int32} {H : Nat → Nat → List Row} {b : Bool}
theorem undoL (hfu : 5000 ≤ fu) (ht : t < 2 ^ 29) : ∀ i q1 q2 (M m : Mem) (u : Nat), i ≤ 4 → i < q1 → i < q2 → UND M m t u i H → u + i < 2 ^ 29 → ∃ N n u', f_X2_takeAllBack_L2 fu q1 (nI i + (-1)) M = some N ∧ f_X11_run_L67 fu x2 q2 (nI i + (-1)) m = some (x2, n) ∧ WR N n t u' (H 0) ∧ u ≤ u' ∧ u' ≤ u + i ∧ FCv N M ∧ FMv n m := by
  intro i
  induction i with
  | zero =>
    intro q1 q2 M m u h0 h1 h2 hU hu
    obtain ⟨q1, rfl⟩ := fu1 h1
    obtain ⟨q2, rfl⟩ := fu1 h2
    have hz : (nI 0 + (-1) : Int32) < 0 := by decide
    exact ⟨M, m, u, by rw [f_X2_takeAllBack_L2, if_pos hz], by rw [f_X11_run_L67, if_pos hz], hU.1, Nat.le_refl _, by omega, .rfl, .rfl⟩
  | succ i ih =>
    intro q1 q2 M m u h0 h1 h2 hU hu
    obtain ⟨q1, rfl⟩ := fu1 h1
    obtain ⟨q2, rfl⟩ := fu1 h2
    have ei : nI (i + 1) + (-1) = nI i := add_m1 (a := i + 1) (by omega)
    have hn : ¬ nI i < 0 := fun z => by rw [show (0 : Int32) = nI 0 from rfl, nI_ltI (by omega) (by omega)] at z; omega
    obtain ⟨g1, g2⟩ := hU
    obtain ⟨g3, g4⟩ := g2 i (by omega)
    obtain ⟨N, n, e1, e2, e3, e4, e5⟩ := undo2 hfu (show i < 4 by omega) g4 g1 ht (by omega)
    have g3' : ¬ M 126 i = 0 := by rw [g3]; decide
    have hU' : UND N n t (u + 1) i H := by
      refine ⟨e3, fun k hk => ⟨by rw [e4 126 (by omega)]; exact (g2 k (by omega)).1, (g2 k (by omega)).2.cg g1.n4 ?_ ?_ ?_ ?_ ?_ (fun a ha => e4 a (by omega)) ?_ ?_ ?_ ?_ (fun y _ _ => ?_) e5.2.2⟩⟩
      · rw [e4 123 (by omega)]
      · rw [e4 124 (by omega)]
      · rw [e4 125 (by omega)]
      · rw [e4 127 (by omega)]
      · rw [e4 128 (by omega)]
      · rw [e5.1 58 (by omega) (by omega)]
      · rw [e5.1 59 (by omega) (by omega)]
      · rw [e5.1 61 (by omega) (by omega)]
      · rw [e5.1 64 (by omega) (by omega)]
      · rw [e5.1 65 (by omega) (by omega)]
    obtain ⟨N2, n2, u2, f1, f2, f3, f4, f5, f6, f7⟩ := ih q1 q2 N n (u + 1) (by omega) (by omega) (by omega) hU' (by omega)
    refine ⟨N2, n2, u2, ?_, ?_, f3, by omega, by omega, f6.trans e4.vv, f7.trans e5.vv⟩
    · rw [ei, f_X2_takeAllBack_L2, if_neg hn, inb_nI (by omega) (by omega), grd_true, nI_clamp (by omega), if_neg g3', e1, bd_some, nm_d, f1]
    · rw [ei, f_X11_run_L67, if_neg hn, e2, bd_some, nm_d, f2]
theorem RUN.und (h : RUN M m t u q i H) : UND M m t u i H := ⟨h.1, h.2.2.1⟩
def KR67 (fu : Nat) : Int32 → Int32 → Mem → Option (Int32 × Mem) := fun (x2_8 : Int32) (x3_9 : Int32) (M_10 : Mem) => nm ((if x3_9 = 1 then x2_8 else (x2_8 - 1)) : Int32) (fun v_12 => f_X11_run_L67 fu x2_8 fu v_12 M_10)
theorem runL (hfu : 5000 ≤ fu) (hq : q ≤ 4) : ∀ d i q1 q2 (M m : Mem) (t u : Nat) (H : Nat → Nat → List Row), i + d = q → d < q1 → d < q2 → RUN M m t u q i H → t + 120 * d < 2 ^ 29 - 100 → u + d + q < 2 ^ 29 → ∃ N n v t' u' RR', f_X2_runSteps_L12 fu (nI q) q1 (nI i) M = some (v, N) ∧ f_X11_run_L37 fu (nI q) (KR67 fu) q2 (nI i) m = some (v, n) ∧ WR N n t' u' RR' ∧ t ≤ t' ∧ t' ≤ t + 120 * d ∧ u ≤ u' ∧ u' ≤ u + d + q ∧ FCv N M ∧ FMv n m := by
  intro d
  induction d with
  | zero =>
    intro i q1 q2 M m t u H h1 h2 h3 hR ht hu
    obtain ⟨q1, rfl⟩ := fu1 h2
    obtain ⟨q2, rfl⟩ := fu1 h3
    obtain rfl : i = q := by omega
    have hle : nI i ≤ nI i := Int32.le_refl _
    exact ⟨M, m, -1, t, u, H i, by rw [f_X2_runSteps_L12, if_pos hle], by rw [f_X11_run_L37, if_pos hle], hR.1, Nat.le_refl _, by omega, Nat.le_refl _, by omega, .rfl, .rfl⟩
  | succ d ih =>
    intro i q1 q2 M m t u H h1 h2 h3 hR ht hu
    obtain ⟨q1, rfl⟩ := fu1 h2
    obtain ⟨q2, rfl⟩ := fu1 h3
    have hi : i < q := by omega
    have hle : ¬ nI q ≤ nI i := by rw [nI_leI (by omega) (by omega)]; omega
    have ei : nI i + 1 = nI (i + 1) := nI_add i 1
    obtain ⟨_, b2, ⟨s, hs, es⟩, _⟩ := hR.2.1 i hi
    obtain ⟨N, n, t1, rc, rm, e1, e2, e3, e4, e5, e6, e7⟩ := reqF (fu := fu) (j := s / 2) (s := s) hfu hi hq (by omega) hs (by omega) 3 0 fu fu M m t (by omega) (by omega) (by omega) hR es (by omega)
    have eC : f_X2_request fu (nI i) M = some (rc, N) := by
      rw [f_X2_request, inb_nI (by omega) (by omega), grd_true, nm_d, nI_clamp (by omega), b2, es, sto hs]
      exact e1
    have eM : f_X11_runs fu (nI i) m = some (rm, n) := by
      rw [f_X11_runs, inb_nI (by omega) (by omega), grd_true, nm_d, nI_clamp (by omega), es, st_store, sto hs, jn_d]
      exact e2
    rw [f_X2_runSteps_L12, if_neg hle, eC, bm_some, f_X11_run_L37, if_neg hle, eM, bm_some]
    rcases e3 with ⟨rfl, rfl, hR1⟩ | ⟨H', hH0, hR1, ⟨rfl, rfl⟩ | ⟨rfl, rfl⟩⟩
    · -- it couldn't be done
      obtain ⟨N2, n2, u2, f1, f2, f3, f4, f5, f6, f7⟩ := undoL (fu := fu) (x2 := nI i) hfu (by omega) i (fu - 1) fu N n u (by omega) (by omega) (by omega) hR1.und (by omega)
      have h126 : N 126 i = 0 := hR1.2.2.2 i (Nat.le_refl _) hi
      have hn : ¬ nI i < 0 := fun z => by rw [show (0 : Int32) = nI 0 from rfl, nI_ltI (by omega) (by omega)] at z; omega
      refine ⟨N2, n2, nI i, t1, u2, H 0, ?_, ?_, f3, e4, by omega, f4, by omega, f6.trans e6, f7.trans e7⟩
      · rw [if_pos rfl, f_X2_takeAllBack]
        obtain ⟨fu', rfl⟩ : ∃ f, fu = f + 1 := ⟨fu - 1, by omega⟩
        rw [f_X2_takeAllBack_L2, if_neg hn, inb_nI (by omega) (by omega), grd_true, nI_clamp (by omega), if_pos h126, nm_d]
        rw [show fu' + 1 - 1 = fu' by omega] at f1
        rw [f1, bd_some]
      · rw [if_neg (show ¬ (2 : Int32) ≤ 0 by decide)]
        simp only [KR67, nm_d]
        rw [if_neg (show ¬ (0 : Int32) = 1 by decide), Int32.sub_eq_add_neg]
        exact f2
    · -- it was done
      rw [if_neg (show ¬ (1 : Int32) = 0 by decide), if_pos (show (2 : Int32) ≤ 2 by decide), nm_d, nm_d, ei]
      obtain ⟨N2, n2, v, t2, u2, RR', f1, f2, f3, f4, f5, f6, f7, f8, f9⟩ := ih (i + 1) q1 q2 N n t1 (u + 1) H' (by omega) (by omega) (by omega) hR1 (by omega) (by omega)
      exact ⟨N2, n2, v, t2, u2, RR', f1, f2, f3, by omega, by omega, by omega, by omega, f8.trans e6, f9.trans e7⟩
    · -- done, and no answer
      obtain ⟨N2, n2, u2, f1, f2, f3, f4, f5, f6, f7⟩ := undoL (fu := fu) (x2 := nI i) hfu (by omega) (i + 1) fu fu N n (u + 1) (by omega) (by omega) (by omega) hR1.und (by omega)
      have ei' : nI (i + 1) + (-1) = nI i := add_m1 (a := i + 1) (by omega)
      rw [ei'] at f1 f2
      refine ⟨N2, n2, nI i, t1, u2, H' 0, ?_, ?_, f3, e4, by omega, by omega, by omega, f6.trans e6, f7.trans e7⟩
      · rw [if_pos rfl, f_X2_takeAllBack, f1, bd_some]
      · rw [if_neg (show ¬ (2 : Int32) ≤ 1 by decide)]
        simp only [KR67, nm_d]
        rw [if_pos trivial]
        exact f2
theorem REL.rn {t' u' : Nat} (h : REL M m t u) (hW : WR N n t' u' RR') (fC : ∀ a, (a = 54 ∨ a = 59 ∨ (80 ≤ a ∧ a ≤ 121)) → N a = M a) (fM : ∀ a, 16 < a → a < 30 ∨ 41 < a → a ≠ 64 → a ≠ 65 → n a = m a) (f0 : ∀ j, j ≠ 0 → j ≠ 6 → j ≠ 7 → j ≠ 8 → j ≠ 39 → j ≠ 85 → n 0 j = m 0 j) (hB : BB N n) : REL N n t' u' := by
  obtain ⟨RR, nS, nL, nC, nO, w1, w2, w3, w4, w5, w6, ⟨⟨k, cols, k1, k2, k3, k4, k5, k6, k7⟩, l2, l3, l4, l5, l6, p, p1, p2, p3, p4⟩, w8⟩ := h
  have hD : DS n m := ⟨fun a z1 z2 => fM a (by omega) (by omega) (by omega) (by omega), fun j z1 z2 => f0 j (by omega) (by omega) (by omega) (by omega) (by omega) (by omega)⟩
  refine ⟨RR', nS, nL, nC, nO, hW, w2.cg (fun a z1 z2 => fC a (by omega)) hD, w3.cg hD, w4.cg (fC 59 (by omega)) (fM 18 (by omega) (by omega) (by omega) (by omega)), w5.cg (fC 54 (by omega)) (fM 17 (by omega) (by omega) (by omega) (by omega)), by rw [fC 121 (by omega), fM 48 (by omega) (by omega) (by omega) (by omega)]; exact w6, ⟨⟨k, cols, k1, k2, by rw [fC 90 (by omega)]; exact k3, by rw [f0 75 (by omega) (by omega) (by omega) (by omega) (by omega) (by omega)]; exact k4, by rw [fC 90 (by omega)]; exact k5, by rw [f0 76 (by omega) (by omega) (by omega) (by omega) (by omega) (by omega)]; exact k6, fun x c hx hc => by rw [fC 91 (by omega), fM 56 (by omega) (by omega) (by omega) (by omega)]; exact k7 x c hx hc⟩, ?_, ?_, ?_, ?_, ?_, p, p1, ?_, ?_, ?_⟩, hB⟩
  · rw [fC 90 (by omega), f0 78 (by omega) (by omega) (by omega) (by omega) (by omega) (by omega)]; exact l2
  · rw [fC 90 (by omega), f0 79 (by omega) (by omega) (by omega) (by omega) (by omega) (by omega)]; exact l3
  · rw [fC 90 (by omega), f0 80 (by omega) (by omega) (by omega) (by omega) (by omega) (by omega)]; exact l4
  · rw [fC 90 (by omega), f0 81 (by omega) (by omega) (by omega) (by omega) (by omega) (by omega)]; exact l5
  · rw [fC 90 (by omega), f0 82 (by omega) (by omega) (by omega) (by omega) (by omega) (by omega)]; exact l6
  · rw [fC 90 (by omega)]; exact p2
  · rw [f0 83 (by omega) (by omega) (by omega) (by omega) (by omega) (by omega)]; exact p3
  · rw [fC 93 (by omega), fC 94 (by omega), fM 57 (by omega) (by omega) (by omega) (by omega)]; exact p4
theorem WR.fr' {RR : Nat → List Row} (h : WR M m t u RR) (fC : ∀ a, a ≤ 79 → N a = M a) (fM : ∀ a, a ≠ 0 → a ≤ 41 → n a = m a) (f0 : ∀ j, j ≠ 0 → j ≠ 85 → n 0 j = m 0 j) : WR N n t u RR :=
  h.of (h.1.cg (fun a _ _ _ => fC a (by omega)) (f0 7 (by omega) (by omega)) (f0 8 (by omega) (by omega)) (f0 39 (by omega) (by omega)) (fun a _ _ => fM a (by omega) (by omega)) (fun a _ _ => fM a (by omega) (by omega))) (fun a _ _ _ => fC a (by omega)) (fun a _ _ => fM a (by omega) (by omega)) (f0 6 (by omega) (by omega))
theorem run_call (hfu : 5000 ≤ fu) (h : REL M m t u) (ht : t < 2 ^ 28) (hu : u < 2 ^ 28) : OUT kmR t u (f_X10_run fu M) (f_X11_run fu m) := by
  obtain ⟨RR, nS, nL, nC, nO, w1, w2, w3, w4, w5, w6, w7, q, b1, b2, b3, b4⟩ := id h
  have e0 : (nI q ≤ 0) = (q = 0) := by
    rw [show (0 : Int32) = nI 0 from rfl, nI_leI (by omega) (by omega)]; exact propext (by omega)
  have e0' : (nI q = 0) = (q = 0) := by rw [show (0 : Int32) = nI 0 from rfl, nI_eq (by omega) (by omega)]
  by_cases hq0 : q = 0
  · refine OUT.same (k := 3) (v := 0) (p1 := 0) h (by omega) ?_ ?_ (fun hk => by omega)
    · simp only [f_X10_run, b2, nm_d, eq_true (e0 ▸ hq0), if_true, f_X10_needState, bx_3, xer]
    · simp only [f_X11_run, b3, nm_d, eq_true (e0' ▸ hq0), if_true, up_s, le10, if_false]
      rfl
  have hR : RUN (up M 122 9 0) (up (up m 0 0 0) 0 85 0) t u q 0 (fun _ => RR) := by
    refine ⟨w1.fr' (fun a ha => up_n (by omega)) (fun a ha _ => by rw [up_n (by omega), up_n (by omega)]) (fun j z1 z2 => by rw [up_m z2, up_m z1]), fun k hk => ?_, fun k hk => by omega, fun k _ hk => by rw [up_n (by omega)]; exact (b4 k hk).2.2.2.2.2.2.2.2⟩
    obtain ⟨y1, y2, y3, y4, y5, y6, y7, y8, _⟩ := b4 k hk
    simp only [STB]
    simp (disch := omega) only [up_n]
    exact ⟨y1, y2, y3, y4, y5, y6, y7, y8⟩
  obtain ⟨N, n, v, t', u', RR', f1, f2, f3, f4, f5, f6, f7, f8, f9⟩ := runL (fu := fu) (q := q) hfu b1 q 0 fu fu _ _ t u _ (by omega) (by omega) (by omega) hR (by omega) (by omega)
  refine ⟨0, v, N, v, n, t', u', ?_, ?_, ?_, fun _ => rfl, by decide, f4, by omega, f6, by omega, h.rn f3 (fun a ha => ?_) (fun a z1 z2 z3 z4 => ?_) (fun j z1 z2 z3 z4 z5 z6 => ?_) ⟨0, by omega, ?_, ?_, fun i hi => by omega⟩⟩
  · simp only [f_X10_run, b2, nm_d, e0, hq0, if_false, f_X10_needState, i10, bx_0, f_X2_runSteps]
    rw [show (0 : Int32) = nI 0 from rfl] at f1 ⊢
    rw [f1, bm_some]
  · have e85 : up m 0 0 0 0 85 = nI q := by rw [up_m (by omega)]; exact b3
    simp only [f_X11_run, b3, nm_d, e0', hq0, if_false, up_s, Int32.le_refl, if_true, jn_d, e85]
    exact f2
  · rw [f9.2 0 (by omega) (by omega) (by omega) (by omega), up_m (by omega), up_s]; rfl
  · rw [f8 a (by omega), up_n (by omega)]
  · rw [f9.1 a z1 z2 z3 z4, up_n (by omega), up_n (by omega)]
  · rw [f9.2 j z2 z3 z4 z5, up_m z6, up_m z1]
  · rw [f8 122 (by omega), up_s]; rfl
  · rw [f9.2 85 (by omega) (by omega) (by omega) (by omega), up_s]; rfl
end RunB
