/-! ===== a bundle is run: the turn ===== -/
section Run6
variable {fu t u t1 u1 k0 s i j p c k q y : Nat} {M m N n P MC : Mem} {A B RR : Nat → List Row} {v x : Int32} {H : Nat → Nat → List Row} {b : Bool}
def KJ (fu : Nat) (x13_8 : Int32) : Mem → Option (Int32 × Mem) := fun (M_12 : Mem) => bm (f_L_run fu M_12) (fun r_14 M_15 => (if r_14 = x13_8 then grd (e3 M_15) (some ((1 : Int32), M_15)) else grd (e3 M_15) (some ((0 : Int32), M_15))))
def KT (fu : Nat) : Int32 → Int32 → Mem → Option (Int32 × Mem) := fun (x13_8 : Int32) (x14_9 : Int32) (M_10 : Mem) => f_L_runs_L211 fu x13_8 (KJ fu x13_8) fu x14_9 M_10
theorem runLL (hfu : 5000 ≤ fu) (hq : q ≤ 4) : ∀ d i q1 q2 (M m MC : Mem) (t u : Nat) (H : Nat → Nat → List Row), i + d = q → d < q1 → d < q2 → RNL M m MC t u q i H → t + 120 * d < 2 ^ 26 → u + d + q < 62 → ∃ N n v t' u', f_L_runs_L45 fu (nI q) (KT fu) q1 (-1) (nI i + (-1)) (nI i) M = KJ fu v N ∧ f_X11_run_L37 fu (nI q) (KR67 fu) q2 (nI i) m = some (v, n) ∧ LR N n t' u' ∧ t ≤ t' ∧ t' ≤ t + 120 * d ∧ u ≤ u' ∧ u' ≤ u + d + q ∧ (∀ a, a < 142 → N a = M a) ∧ n 0 0 = 0 := by
  intro d
  induction d with
  | zero =>
    intro i q1 q2 M m MC t u H h1 h2 h3 hR ht hu
    obtain ⟨q1, rfl⟩ := fu1 h2
    obtain ⟨q2, rfl⟩ := fu1 h3
    obtain rfl : i = q := by omega
    have hle : nI i ≤ nI i := Int32.le_refl _
    refine ⟨M, m, -1, t, u, ?_, by rw [f_X11_run_L37, if_pos hle], hR.2.1, Nat.le_refl _, by omega, Nat.le_refl _, by omega, fun _ _ => rfl, hR.2.2.2.2.2.2⟩
    rw [f_L_runs_L45, if_pos hle, KT]
    obtain ⟨fu', hfu'⟩ : ∃ f, fu = f + 1 := ⟨fu - 1, by omega⟩
    rw [show f_L_runs_L211 fu (-1) (KJ fu (-1)) fu = f_L_runs_L211 fu (-1) (KJ fu (-1)) (fu' + 1) by rw [hfu'], f_L_runs_L211]
    by_cases z : nI i + (-1) < 0
    · rw [if_pos z]
    · rw [if_neg z, if_pos (by decide)]
  | succ d ih =>
    intro i q1 q2 M m MC t u H h1 h2 h3 hR ht hu
    obtain ⟨q1, rfl⟩ := fu1 h2
    obtain ⟨q2, rfl⟩ := fu1 h3
    have hi : i < q := by omega
    have hle : ¬ nI q ≤ nI i := by rw [nI_leI (by omega) (by omega)]; omega
    have ei : nI i + 1 = nI (i + 1) := nI_add i 1
    have e6 : (6 : Int32) * nI i + 1 = nI (6 * i + 1) := by rw [(e6j (j := i)).1, (e6j (j := i)).2.1]
    obtain ⟨_, b2, ⟨s, hs, es⟩, _⟩ := hR.1.2.1 i hi
    have e155 : M 155 (6 * i + 1) = nI s := by rw [(hR.2.2.2.1 i hi).2.1, es]
    have ediv : nI s / 2 = nI (s / 2) := pk_div (d := 2) (by omega) (by omega) (by omega)
    obtain ⟨N, n, NC, t1, w, rm, e1, e2, e4, e5, e7⟩ := reqFL (fu := fu) (s := s) (x14 := nI i + (-1)) (K := fun (x14_62 : Int32) (x19_63 : Int32) (M_64 : Mem) => jn (fun (_ : Unit) => nm (nI i + 1) (fun x15_66 => f_L_runs_L45 fu (nI q) (KT fu) q1 (nI i) x14_62 x15_66 M_64)) (fun k197_65 => (if x19_63 = 2 then (if x14_62 = nI i then nm (nI i + 1) (fun x15_69 => f_L_runs_L45 fu (nI q) (KT fu) q1 (-1) x14_62 x15_69 M_64) else k197_65 ()) else k197_65 ()))) hfu hi hq hs (by omega) 3 0 fu fu M m MC t (by omega) (by omega) (by omega) hR es (by omega)
    have eM : f_X11_runs fu (nI i) m = some (rm, n) := by
      rw [f_X11_runs, inb_nI (by omega) (by omega), grd_true, nm_d, nI_clamp (by omega), es, st_store, sto hs, jn_d]
      exact e1
    have eL : f_L_runs_L45 fu (nI q) (KT fu) (q1 + 1) (-1) (nI i + (-1)) (nI i) M = f_L_runs_L83 fu (nI i) (nI s) (nI (s / 2)) (fun (x14_62 : Int32) (x19_63 : Int32) (M_64 : Mem) => jn (fun (_ : Unit) => nm (nI i + 1) (fun x15_66 => f_L_runs_L45 fu (nI q) (KT fu) q1 (nI i) x14_62 x15_66 M_64)) (fun k197_65 => (if x19_63 = 2 then (if x14_62 = nI i then nm (nI i + 1) (fun x15_69 => f_L_runs_L45 fu (nI q) (KT fu) q1 (-1) x14_62 x15_69 M_64) else k197_65 ()) else k197_65 ()))) fu (nI i + (-1)) 0 1 (nI 0) M := by
      rw [f_L_runs_L45, if_neg hle, if_neg (by decide), e6, inb_nI (by omega) (by omega), grd_true, nm_d, nI_clamp (by omega), e155, nm_d, ediv, jn_d]
      rfl
    rw [eL, f_X11_run_L37, if_neg hle, eM, bm_some]
    have hn : ¬ nI i < 0 := nI_pos (by omega)
    have h0i : (0 : Int32) ≤ nI i := by rw [← Int32.not_lt]; exact hn
    -- the end of the law's loop, once a step has ended it
    have out : ∀ x14 X, f_L_runs_L45 fu (nI q) (KT fu) q1 (nI i) x14 (nI (i + 1)) X = f_L_runs_L211 fu (nI i) (KJ fu (nI i)) fu x14 X := fun x14 X => by
      obtain ⟨q1', rfl⟩ := fu1 (show 0 < q1 by omega)
      rw [f_L_runs_L45]
      by_cases z : nI q ≤ nI (i + 1)
      · rw [if_pos z]; rfl
      · rw [if_neg z, if_pos h0i]; rfl
    rcases e2 with ⟨rfl, g1, hR1⟩ | ⟨H', g1, hR1, ⟨rfl, rfl⟩ | ⟨rfl, rfl⟩⟩
    · -- it couldn't be done
      obtain ⟨N2, n2, u2, f1, f2, f3, f4, f5, f6, f7⟩ := undoLL (fu := fu) (v := nI i) (x := nI i) (K := KJ fu (nI i)) hfu hn (by omega) i fu fu N n NC u (by omega) (by omega) (by omega) (hR1.und (by omega)) (by omega)
      refine ⟨N2, n2, nI i, t1, u2, ?_, ?_, f3, e4, by omega, f4, by omega, fun a ha => by rw [f6 a ha, e7 a ha], by rw [f7]; exact hR1.2.2.2.2.2.2⟩
      · have hne : ¬ nI i + (-1) = nI i := by
          cases i with
          | zero => decide
          | succ i =>
            have ei' : nI (i + 1) + (-1) = nI i := add_m1 (a := i + 1) (by omega)
            rw [ei', nI_eq (by omega) (by omega)]
            omega
        rw [g1, jn_d]
        simp only [hne, if_false, ite_self, nm_d, ei]
        rw [out]
        exact f1
      · rw [if_neg (show ¬ (2 : Int32) ≤ 0 by decide)]
        simp only [KR67, nm_d]
        rw [if_neg (show ¬ (0 : Int32) = 1 by decide), Int32.sub_eq_add_neg]
        exact f2
    · -- it was done
      have ei' : nI (i + 1) + (-1) = nI i := add_m1 (a := i + 1) (by omega)
      obtain ⟨N2, n2, v, t2, u2, f1, f2, f3, f4, f5, f6, f7, f8, f9⟩ := ih (i + 1) q1 q2 N n NC t1 (u + 1) H' (by omega) (by omega) (by omega) hR1 (by omega) (by omega)
      rw [ei'] at f1
      refine ⟨N2, n2, v, t2, u2, ?_, ?_, f3, by omega, by omega, by omega, by omega, fun a ha => by rw [f8 a ha, e7 a ha], f9⟩
      · rw [g1, jn_d]
        simp only [if_true, nm_d, ei]
        exact f1
      · rw [if_pos (show (2 : Int32) ≤ 2 by decide), nm_d, ei]
        exact f2
    · -- done, and no answer
      obtain ⟨N2, n2, u2, f1, f2, f3, f4, f5, f6, f7⟩ := undoLL (fu := fu) (v := nI i) (x := nI i) (K := KJ fu (nI i)) hfu hn (by omega) (i + 1) fu fu N n NC (u + 1) (by omega) (by omega) (by omega) (hR1.und (by omega)) (by omega)
      have ei' : nI (i + 1) + (-1) = nI i := add_m1 (a := i + 1) (by omega)
      rw [ei'] at f1 f2
      refine ⟨N2, n2, nI i, t1, u2, ?_, ?_, f3, e4, by omega, by omega, by omega, fun a ha => by rw [f6 a ha, e7 a ha], by rw [f7]; exact hR1.2.2.2.2.2.2⟩
      · rw [g1, jn_d]
        simp only [show ((1 : Int32) = 2) = False from one2, if_false, nm_d, ei]
        rw [out]
        exact f1
      · rw [if_neg (show ¬ (2 : Int32) ≤ 1 by decide)]
        simp only [KR67, nm_d]
        rw [if_pos trivial]
        exact f2
theorem run_st (h : STL M m) (hq : m 0 85 = nI q) (hq4 : q ≤ 4) : M 156 0 = nI q ∧ ∀ k, k < q → SPL M m k := by
  obtain ⟨q', w0, w1, w2, w3⟩ := h
  have : q' = q := (nI_eq (by omega) (by omega)).mp (w2.symm.trans hq)
  subst this
  refine ⟨w1, fun k hk => ?_⟩
  obtain ⟨y0, y1, y2, y3, y4, y5, _, y7, _⟩ := w3 k hk
  refine ⟨y0, y1, y2, y3, y4, y5, fun z => ?_⟩
  rcases y7 with y7 | ⟨_, y7⟩ | y7
  · rw [z] at y7; exact absurd y7 (by decide)
  · exact y7
  · rw [z] at y7; exact absurd y7 (by decide)
theorem runs_ok (hfu : 5000 ≤ fu) (h : INV M m t u) (ht : t + 1000 < 2 ^ 26) (hu : u ≤ 53) (hR : RLL M m RR) (hW : WR M m t u RR) (hl : ∀ s, s < 6 → (RR s).length ≤ 6) : RES (f_L_runs fu M) t u := by
  have ht' : t < 2 ^ 28 := by omega
  have hu' : u < 2 ^ 28 := by omega
  obtain ⟨_, nS, nL, nC, nO, _, _, _, _, _, _, _, q, b1, b2, b3, b4⟩ := id h.2
  obtain ⟨w1, w2⟩ := run_st h.1.st b3 b1
  have e0 : (nI q = 0) = (q = 0) := by rw [show (0 : Int32) = nI 0 from rfl, nI_eq (by omega) (by omega)]
  have e3M := h.1.e3c
  unfold f_L_runs
  by_cases hq0 : q = 0
  · rw [w1, if_pos (by rw [e0]; exact hq0)]
    have hx : f_X11_run fu m = some (0, up m 0 0 1) := by
      simp only [f_X11_run, b3, nm_d, eq_true (e0 ▸ hq0), if_true, up_s, le10, if_false]
    obtain ⟨M', a1, a2⟩ := eC (k0 := 3) (cs := [3]) h.sm (run_call hfu h.2 ht' hu') hx .up0 (by rw [up_s]; rfl) (by decide) (by decide) (by decide) (by omega) (by omega)
    have a1' : f_L_run fu M = some (-7300, M') := a1
    rw [a1', bm_some, if_pos rfl]
    exact .ok (a2.inv h.1)
  · rw [w1, if_neg (by rw [e0]; exact hq0), e3M, grd_true]
    have x1 : row M 157 (fun _ => 0) 156 0 = nI q := by rw [show row M 157 (fun _ => 0) 156 = M 156 from by simp [row]]; exact w1
    rw [nm_d, x1, nm_d, nm_d, jn_d]
    generalize hM6 : up (row M 157 (fun _ => 0)) 156 0 0 = M6
    have f6 : ∀ a, a ≠ 156 → a ≠ 157 → M6 a = M a := fun a z1 z2 => by rw [← hM6, up_n z1]; simp [row, z2]
    generalize hm6 : up (up m 0 0 0) 0 85 0 = m6
    have g6 : ∀ a, a ≠ 0 → m6 a = m a := fun a z => by rw [← hm6, up_n z, up_n z]
    have g60 : ∀ j, j ≠ 0 → j ≠ 85 → m6 0 j = m 0 j := fun j z1 z2 => by rw [← hm6, up_m z2, up_m z1]
    have hL6 : LR M6 m6 t u := h.1.stl (fun a _ z z1 z2 => f6 a z2 (by omega)) (fun a z _ => g6 a (by omega)) g60 ⟨0, by omega, by rw [← hM6, up_s]; rfl, by rw [← hm6, up_s]; rfl, fun i hi => by omega⟩ (by rw [e3_cg (f6 3 (by omega) (by omega))]; exact e3M)
    have hRU : RUN (up M 122 9 0) m6 t u q 0 (fun _ => RR) := by
      refine ⟨hW.fr' (fun a ha => up_n (by omega)) (fun a ha _ => g6 a ha) (fun j z1 z2 => g60 j z1 z2), fun k hk => ?_, fun k hk => by omega, fun k _ hk => by rw [up_n (by omega)]; exact (b4 k hk).2.2.2.2.2.2.2.2⟩
      obtain ⟨y1, y2, y3, y4, y5, y6, y7, y8, _⟩ := b4 k hk
      simp only [STB]
      rw [g6 58 (by omega), g6 59 (by omega), g6 60 (by omega), g6 61 (by omega), g6 62 (by omega), g6 63 (by omega)]
      simp (disch := omega) only [up_n]
      exact ⟨y1, y2, y3, y4, y5, y6, y7, y8⟩
    have hRL : RNL M6 m6 (up M 122 9 0) t u q 0 (fun _ => RR) := ⟨hRU, hL6, hR.cg (f6 142 (by omega) (by omega)) (f6 143 (by omega) (by omega)) (g6 1 (by omega)) (g6 2 (by omega)) (g6 3 (by omega)), fun k hk => (w2 k hk).cg (f6 155 (by omega) (by omega)) (fun a z1 z2 => g6 a (by omega)), fun k hk => by omega, fun k hk s hs => ⟨by have := hl s hs; show (RR s).length ≤ 6 + k; omega, (hR s hs).2.2⟩, by rw [← hm6, up_m (by omega), up_s]⟩
    obtain ⟨N, n, v, t', u', f1, f2, f3, f4, f5, f7, f8, f9, hz⟩ := runLL (fu := fu) (q := q) hfu b1 q 0 fu fu M6 m6 _ t u _ (by omega) (by omega) (by omega) hRL (by omega) (by omega)
    have e85 : up m 0 0 0 0 85 = nI q := by rw [up_m (by omega)]; exact b3
    have e0' : ¬ nI q = 0 := by rw [e0]; exact hq0
    have hx : f_X11_run fu m = some (v, n) := by
      simp only [f_X11_run, b3, nm_d, e0', if_false, up_s, Int32.le_refl, if_true, jn_d, e85, hm6]
      exact f2
    obtain ⟨M7, a1, a2, a3⟩ := rCall (k0 := 0) (cs := [3]) f3 (run_call hfu (h.2.cgC (N := N) (fun a ha => by rw [f9 a ha, f6 a (by omega) (by omega)])) ht' hu') hx (by rw [hz]; rfl) (by decide) (by decide) (by decide) (by omega) (by omega) (by omega)
    have a1' : f_L_run fu N = some (v, M7) := a1
    have f1' : f_L_runs_L45 fu (nI q) (KT fu) fu (-1) (-1) 0 M6 = KJ fu v N := f1
    have hk : (fun (x13_8 : Int32) (x14_9 : Int32) (M_10 : Mem) => jn (fun (M_12 : Mem) => bm (f_L_run fu M_12) (fun r_14 M_15 => (if r_14 = x13_8 then grd (e3 M_15) (some ((1 : Int32), M_15)) else grd (e3 M_15) (some ((0 : Int32), M_15))))) (fun k386_11 => f_L_runs_L211 fu x13_8 k386_11 fu x14_9 M_10)) = KT fu := rfl
    rw [hk, f1', KJ, a1', bm_some, if_pos rfl, a2.1.e3c, grd_true]
    exact ⟨M7, n, t', u', rfl, a2, f4, by omega, f7, by omega⟩
theorem roomL (hR : RLL M m RR) : ∀ d j n, j + d = 6 → d < n → (f_L_roomFor_L2 fu M n (nI j) = some 1 ∧ ∀ s, j ≤ s → s < 6 → (RR s).length ≤ 6) ∨ f_L_roomFor_L2 fu M n (nI j) = some 0 := by
  intro d
  induction d with
  | zero =>
    intro j n h1 h2
    obtain ⟨n, rfl⟩ := fu1 h2
    obtain rfl : j = 6 := by omega
    exact Or.inl ⟨by rw [f_L_roomFor_L2, if_pos (by decide)], fun s h1 h2 => by omega⟩
  | succ d ih =>
    intro j n h1 h2
    obtain ⟨n, rfl⟩ := fu1 h2
    have hj : ¬ (6 : Int32) ≤ nI j := by rw [show (6 : Int32) = nI 6 from rfl, nI_leI (by omega) (by omega)]; omega
    obtain ⟨q1, _, _⟩ := hR j (by omega)
    have h10 := q1.2.1
    have e : (nI (RR j).length ≤ 6) = ((RR j).length ≤ 6) := by rw [show (6 : Int32) = nI 6 from rfl, nI_leI (by omega) (by omega)]
    rw [f_L_roomFor_L2, if_neg hj, inb_nI (by omega) (by omega), grd_true, nI_clamp (by omega), q1.1]
    by_cases z : (RR j).length ≤ 6
    · rw [if_pos (by rw [e]; exact z), nm_d, show nI j + 1 = nI (j + 1) from nI_add j 1]
      rcases ih (j + 1) n (by omega) (by omega) with ⟨w1, w2⟩ | w
      · refine Or.inl ⟨w1, fun s z1 z2 => ?_⟩
        by_cases zz : s = j
        · subst zz; exact z
        · exact w2 s (by omega) z2
      · exact Or.inr w
    · rw [if_neg (by rw [e]; exact z)]
      exact Or.inr rfl
end Run6
