/-! ===== a step of a bundle is done: both ===== -/
def FCd (j : Nat) (N M : Mem) : Prop := (∀ a, (a = 54 ∨ a = 59 ∨ (80 ≤ a ∧ a ≤ 125) ∨ (130 ≤ a ∧ a ≠ 130 + 3 * j ∧ a ≠ 130 + 3 * j + 1 ∧ a ≠ 130 + 3 * j + 2)) → N a = M a) ∧ ∀ k, k ≠ j → N 126 k = M 126 k ∧ N 127 k = M 127 k ∧ N 128 k = M 128 k
def FMd (j : Nat) (n m : Mem) : Prop := (∀ a, 5 < a → a < 30 ∨ 41 < a → a ≠ 64 → a ≠ 65 → n a = m a) ∧ (∀ i, i ≠ 6 → i ≠ 7 → i ≠ 39 → n 0 i = m 0 i) ∧ (∀ k, k ≠ j → n 64 k = m 64 k) ∧ (∀ q, q < 4 * j ∨ 4 * j + 3 < q → n 65 q = m 65 q) ∧ ∀ s a, s < 6 → m 4 s = nI a → a ≤ 60 → ∃ a', a ≤ a' ∧ a' ≤ 60 ∧ n 4 s = nI a'
section DoB
variable {fu nS nL nC nO i j s t u e p c k : Nat} {M m N n : Mem} {RR RR' A B : Nat → List Row} {R : List Row} {r : Row} {v x p1 p2 p3 p4 p5 p6 : Int32}
theorem WR.fr (h : WR M m t u RR) (fC : ∀ a, a ≤ 79 → N a = M a) (fM : ∀ a, a ≤ 41 → n a = m a) : WR N n t u RR :=
  h.of (h.1.cg (fun a _ _ _ => fC a (by omega)) (by rw [fM 0 (by omega)]) (by rw [fM 0 (by omega)]) (by rw [fM 0 (by omega)]) (fun a _ _ => fM a (by omega)) (fun a _ _ => fM a (by omega))) (fun a _ _ _ => fC a (by omega)) (fun a _ _ => fM a (by omega)) (by rw [fM 0 (by omega)])
theorem WR.okr (h : WR M m t u RR) (hs : s < 6) (hr : r ∈ RR s) : okr s r := ⟨fun c hc => (h.2.2.1 s hs).2.1 r hr c hc, fun z => (h.2.2.1 s hs).2.2.1 z r hr⟩
theorem doC0 (hj : j < 4) (k124 : M 124 j = nI s) (z0 : (M 123 j = 0) = True) : f_X2_doStep fu (nI j) M = bm (f_X7_addRow fu (nI s) (M 125 (4 * j)) (M 125 (4 * j + 1)) (M 125 (4 * j + 2)) (M 125 (4 * j + 3)) (up (up M 127 j (M 125 (4 * j))) 126 j 1)) (fun r M_13 => some (up M_13 127 j r)) := by
  obtain ⟨e4, e5, e51, e52, e53, e6⟩ := e4m (j := j)
  simp (disch := omega) only [f_X2_doStep, inb_nI, grd_true, nI_clamp, nm_d, k124, up_n, z0, if_true, e6, e51, e52, e53]
theorem doC1 (hj : j < 4) (k124 : M 124 j = nI s) (z0 : (M 123 j = 0) = False) (z1 : (M 123 j = 1) = True) : f_X2_doStep fu (nI j) M = bm (f_X7_changeCell fu (nI s) (M 125 (4 * j)) (M 125 (4 * j + 1)) (M 125 (4 * j + 2)) (up (up M 127 j (M 125 (4 * j))) 126 j 1)) (fun r M_20 => some (up M_20 128 j r)) := by
  obtain ⟨e4, e5, e51, e52, e53, e6⟩ := e4m (j := j)
  simp (disch := omega) only [f_X2_doStep, inb_nI, grd_true, nI_clamp, nm_d, k124, up_n, up_s, z0, z1, if_true, if_false, e6, e51, e52, e53]
theorem doC2 (hj : j < 4) (hs : s < 6) (k124 : M 124 j = nI s) (z0 : (M 123 j = 0) = False) (z1 : (M 123 j = 1) = False) : f_X2_doStep fu (nI j) M = bd (f_X6_placeOf fu (62 + 3 * s) (M 125 (4 * j)) (up (up (up M 127 j (M 125 (4 * j))) 126 j 1) (130 + 3 * j) 2 0)) (fun r_29 => bd (f_X6_takeRow fu (130 + 3 * j) (62 + 3 * s) r_29 (up (up (up M 127 j (M 125 (4 * j))) 126 j 1) (130 + 3 * j) 2 0)) (fun M_31 => bd (f_X7_removeRow fu (nI s) (M_31 127 j) M_31) (fun M_33 => some M_33))) := by
  obtain ⟨e4, e5, e51, e52, e53, e6⟩ := e4m (j := j)
  simp (disch := omega) only [f_X2_doStep, inb_nI, grd_true, nI_clamp, nm_d, k124, up_n, up_s, z0, z1, if_true, if_false, e6, e51, e52, e53, Nat.reduceAdd]
theorem doM0 (hj : j < 4) (k59 : m 59 j = nI s) (z0 : (m 58 j = 0) = True) : f_X11_doesStep fu (nI j) m = bm (f_X11_adds fu (nI s) (m 60 j) (m 61 j) (m 62 j) (m 63 j) (up m 64 j (m 60 j))) (fun r_29 M_30 => some (up M_30 64 j r_29)) := by
  simp (disch := omega) only [f_X11_doesStep, inb_nI, grd_true, nI_clamp, nm_d, k59, up_n, z0, if_true]
theorem doM1 (hj : j < 4) (k59 : m 59 j = nI s) (z0 : (m 58 j = 0) = False) (z1 : (m 58 j = 1) = True) : f_X11_doesStep fu (nI j) m = bm (f_X11_kept fu (nI s) (m 61 j) (m 62 j) (up m 64 j (m 60 j))) (fun r_21 M_22 => bm (f_X11_puts fu (nI s) (m 60 j) (m 61 j) r_21 M_22) (fun r_24 M_25 => some (up M_25 65 (4 * j) r_24))) := by
  obtain ⟨e4, e5, e51, e52, e53, e6⟩ := e4m (j := j)
  simp (disch := omega) only [f_X11_doesStep, inb_nI, grd_true, nI_clamp, nm_d, k59, up_n, z0, z1, if_true, if_false, e5]
theorem doM2 (hj : j < 4) (k59 : m 59 j = nI s) (z0 : (m 58 j = 0) = False) (z1 : (m 58 j = 1) = False) : f_X11_doesStep fu (nI j) m = f_X11_doesStep_L123 fu (nI j) (nI s) (fun (M_7 : Mem) => bd (f_X11_takesOut fu (nI s) (M_7 60 j) M_7) (fun M_9 => some M_9)) fu (nI 0) (up m 64 j (m 60 j)) := by
  simp (disch := omega) only [f_X11_doesStep, inb_nI, grd_true, nI_clamp, nm_d, k59, up_n, z0, z1, if_true, if_false, jn_d]
  rfl
theorem copy4 {K : Mem → Option Mem} {mk : Int32} (hfu : 5000 ≤ fu) (hj : j < 4) (hs : s < 6) (hN : NDm R) (hp : fst R mk = some p) (hr : R[p]? = some r) : ∀ d x q (m : Mem), x + d = 4 → d < q → RM m s R → m 60 j = mk → (∀ c, c < x → m 65 (4 * j + c) = cel r c) → ∃ n, f_X11_doesStep_L123 fu (nI j) (nI s) K q (nI x) m = K n ∧ (∀ c, c < 4 → n 65 (4 * j + c) = cel r c) ∧ (∀ a, a ≠ 65 → n a = m a) ∧ ∀ q, q < 4 * j ∨ 4 * j + 3 < q → n 65 q = m 65 q := by
  intro d
  have hl := gl_lt hr
  induction d with
  | zero =>
    intro x q m h1 h2 hR h3 h4
    obtain ⟨q, rfl⟩ := fu1 h2
    obtain rfl : x = 4 := by omega
    exact ⟨m, by simp (disch := omega) only [f_X11_doesStep_L123, lit, nI_add, pk_mul, pk_sub, nI_clamp, inb_nI, nI_leI, nI_ltI, nI_eq, add_m1, ↓reduceIte, grd_true, nm_d, jn_d, bd_some, bm_some, om_some, om_none, Nat.le_refl], h4, fun _ _ => rfl, fun _ _ => rfl⟩
  | succ d ih =>
    intro x q m h1 h2 hR h3 h4
    obtain ⟨q, rfl⟩ := fu1 h2
    have h5 : ¬ 4 ≤ x := by omega
    have h12 := hR.2.1
    have e1 : f_X11_placeOf fu (nI s) mk m = some (nI p) := by rw [mplace_eq hfu hR hs hN, hp]; rfl
    have hc := hR.cell hr (show x < 4 by omega)
    obtain ⟨n, g1, g2, g3, g4⟩ := ih (x + 1) q (up m 65 (4 * j + x) (cel r x)) (by omega) (by omega) (hR.cg (by rw [up_n (by omega)]) (up_n (by omega)) (up_n (by omega))) (by rw [up_n (by omega)]; exact h3) (fun c hc' => by
      by_cases hcx : c = x
      · subst hcx; rw [up_s]
      · rw [up_m (by omega)]; exact h4 c (by omega))
    refine ⟨n, ?_, g2, fun a ha => by rw [g3 a ha, up_n ha], fun y hy => by rw [g4 y hy, up_m (by omega)]⟩
    rw [← g1]
    simp (disch := omega) only [f_X11_doesStep_L123, lit, nI_add, pk_mul, pk_sub, nI_clamp, inb_nI, nI_leI, nI_ltI, nI_eq, add_m1, ↓reduceIte, grd_true, nm_d, jn_d, bd_some, bm_some, om_some, om_none, h5, h3, e1, hc]
end DoB
