/-! ===== what both are like between calls; a query is asked ===== -/
def REL (M m : Mem) (t u : Nat) : Prop := ∃ RR nS nL nC nO, WR M m t u RR ∧ DR M m ∧ DG m nS nL nC nO ∧ ZR M m ∧ FR M m ∧ M 121 = m 48 ∧ LA M m ∧ BB M m
section Ask2
variable {fu nS nL nC nO i j s t u e p c fr t0 dl c0 sc o : Nat} {M m N n : Mem} {RR : Nat → List Row} {tk : Nat → Bool} {sn un : Nat → Nat}
theorem ask96 {k : Mem → Option (Int32 × Mem)} : ∀ d x n (m : Mem), x + d = 3 → d < n → (∀ j, j < x → m 42 j = nI 0) → ∃ N, f_X11_ask_L96 fu k n (nI x) m = k N ∧ (∀ j, j < 3 → N 42 j = nI 0) ∧ ∀ a, a ≠ 42 → N a = m a := by
  intro d
  induction d with
  | zero =>
    intro x n m h1 h2 h3
    obtain ⟨n, rfl⟩ := fu1 h2
    obtain rfl : x = 3 := by omega
    exact ⟨m, by simp (disch := omega) only [f_X11_ask_L96, lit, nI_add, pk_mul, pk_sub, nI_clamp, inb_nI, nI_leI, nI_ltI, nI_eq, add_m1, ↓reduceIte, grd_true, nm_d, jn_d, bd_some, bm_some, om_some, om_none, Nat.le_refl], h3, fun _ _ => rfl⟩
  | succ d ih =>
    intro x n m h1 h2 h3
    obtain ⟨n, rfl⟩ := fu1 h2
    have h4 : ¬ 3 ≤ x := by omega
    obtain ⟨N, g1, g2, g3⟩ := ih (x + 1) n (up m 42 x (nI 0)) (by omega) (by omega) (fun j hj => by
      by_cases hjx : j = x
      · rw [hjx, up_s]
      · rw [up_m hjx]; exact h3 j (by omega))
    refine ⟨N, ?_, g2, fun a ha => by rw [g3 a ha, up_n ha]⟩
    rw [← g1]
    simp (disch := omega) only [f_X11_ask_L96, lit, nI_add, pk_mul, pk_sub, nI_clamp, inb_nI, nI_leI, nI_ltI, nI_eq, add_m1, ↓reduceIte, grd_true, nm_d, jn_d, bd_some, bm_some, om_some, om_none, h4]
theorem cn3_full (h : cn3 tk = nS) (h1 : ∀ j, tk j = true → j < nS) (hS : nS ≤ 3) : ∀ j, j < nS → tk j = true := by
  intro j hj
  have f0 := h1 0
  have f1 := h1 1
  have f2 := h1 2
  have hj3 : j = 0 ∨ j = 1 ∨ j = 2 := by omega
  cases e0 : tk 0 <;> cases e1 : tk 1 <;> cases e2 : tk 2 <;> simp [cn3, e0, e1, e2] at h f0 f1 f2 <;> rcases hj3 with rfl | rfl | rfl <;> first | assumption | (exfalso; omega)
/-- the end of an ask -/
theorem askEnd (hfu : 5000 ≤ fu) (hSA : SA M m t u nS nL nC nO RR t0 dl fr c0 sc tk nS o sn un) (hS0 : 0 < nS) (hO : 0 < nO) (hu : u < 2 ^ 29) : ∃ N n v, f_X1_end fu M = some N ∧ N 90 5 = v ∧ bd (f_X11_makes fu 1 m) (fun M_18 => nm (up M_18 0 75 (M_18 0 68)) (fun M_19 => nm (up M_19 0 76 (M_19 0 69)) (fun M_20 => f_X11_ask_L159 fu (fun M_22 => bd (f_X11_claimed fu M_22) (fun r_24 => nm (up M_22 0 79 r_24) (fun M_25 => some ((M_25 0 75), M_25)))) fu (nI 0) M_20))) = some (v, n) ∧ REL N n t u ∧ n 0 0 = 0 := by
  obtain ⟨b1, b2, b3, b4⟩ := hSA.base
  obtain ⟨⟨y, hAB⟩, h7, ⟨h9, h10⟩, hX⟩ := hSA
  obtain ⟨⟨⟨t1, t2, t3⟩, t4, t5⟩, x0, x1, x2, x3, x4, x5, x6, x7, x8⟩ := hX
  have hS3 := b2.1.2
  -- all seats are taken
  have htk : ∀ j, j < 3 → (tk j = true ↔ j < nS) := by
    exact fun j hj => ⟨x1 j, fun hjs => cn3_full x0 x1 hS3 j hjs⟩
  have H : ∀ j, j < nS → ∃ A, RS m j A ∧ okR A ∧ RC M (96 + 3 * j) (A.filter (fun r => al (hA m j r) nC)) := fun j hj => x5 j (by omega) (by omega) ((htk j (by omega)).mpr hj)
  obtain ⟨A, hA⟩ : ∃ A : Nat → List Row, ∀ j, j < nS → RS m j (A j) ∧ okR (A j) ∧ RC M (96 + 3 * j) ((A j).filter (fun r => al (hA m j r) nC)) := ⟨fun j => if h : j < nS then (H j h).choose else [], fun j hj => by
    simp only [hj, dif_pos]
    exact (H j hj).choose_spec⟩
  obtain ⟨P, q, g1, g2, ⟨k, cols, k1, k2, k3, k4, k5, k6, k7⟩, g4, g5, g6, g7⟩ := make2 (fu := fu) (a0 := 90) (hh := true) (A := A) hfu (by omega) b1 b2 hS0 hO (fun i hi => ⟨fun _ => (hA i hi).1, fun h => by cases h⟩) (fun i hi => (hA i hi).2.1) (fun j hj => by rw [show 90 + 5 + 1 + 3 * j = 96 + 3 * j by omega]; exact (hA j hj).2.2)
  have P120 : P 120 = M 120 := g4 120 (by omega) (by omega) (by omega)
  have P7 : P 90 7 = nI o := by rw [g5 7 (by omega) (by omega)]; exact h7
  -- the claim
  have hb : ∀ j, j < nS → m 46 j = nI (sn j) ∧ m 47 j = nI (un j) ∧ sn j ≤ u ∧ un j ≤ u := fun j hj => x7 j (by omega) ((htk j (by omega)).mpr hj)
  obtain ⟨e1, e2⟩ := mx3N (sn := sn) (un := un) htk hS3
  have e2' := e2 u (fun j hj => (hb j hj).2.2.2)
  have hmx := mx3_le (tk := tk) (sn := sn) (u := u) (fun j hj hjt => (x7 j hj hjt).2.2.1)
  have hmn := mn3_le (tk := tk) (un := un) (u := u) (fun j hj hjt => (x7 j hj hjt).2.2.2)
  rw [e1] at h9 hmx
  rw [e2'] at h10 hmn
  generalize hcl : (if nI o = 0 then (if nI (mnN un u nS) < nI (mxN sn nS) then (-1 : Int32) else nI (mnN un u nS)) else -1) = cl
  have eC : f_X1_end fu M = some (up P 90 8 cl) := by
    simp only [f_X1_end, g1, bd_some, nm_d, P7, P120, h9, h10, hcl]
  -- the copy
  generalize hq1 : up (up q 0 75 (nI k)) 0 76 (nI cols) = q1
  have eq1 : ∀ kk, f_X11_ask_L159 fu kk fu (nI 0) q1 = kk (row q1 56 (va_cpy (q1 52) (q1 56) 0 0 120)) := fun kk => by
    have := copy159 (fu := fu) (m := q1) (k := kk) 120 0 fu (by omega) (by omega)
    rw [cp_0, row_self] at this
    exact this
  generalize hq2 : row q1 56 (va_cpy (q1 52) (q1 56) 0 0 120) = q2 at eq1
  have f1 : ∀ a, a ≠ 0 → q1 a = q a := fun a ha => by rw [← hq1, up_n ha, up_n ha]
  have f2 : ∀ a, a ≠ 0 → a ≠ 56 → q2 a = q a := fun a z1 z2 => by rw [← hq2, row_n z2, f1 a z1]
  have f20 : ∀ j, j ≠ 75 → j ≠ 76 → q2 0 j = q 0 j := fun j z1 z2 => by rw [← hq2, row_n (by omega), ← hq1, up_m z2, up_m z1]
  have hD2 : DS q2 m := ⟨fun a z1 z2 => by rw [f2 a (by omega) (by omega), g6 a (by omega) (by omega)], fun j z1 z2 => by rw [f20 j (by omega) (by omega), g7 j (by omega) (by omega) (by omega)]⟩
  have hG2 := b2.cg hD2
  have eCl : f_X11_claimed fu q2 = some cl := by
    have hu7 : q2 0 7 = nI u := by
      rw [f20 7 (by omega) (by omega), g7 7 (by omega) (by omega) (by omega)]
      have := hAB.1.1.1.2.2.2
      rw [up_m (by omega)] at this
      exact this
    have h78 : q2 0 78 = nI o := by rw [f20 78 (by omega) (by omega), g7 78 (by omega) (by omega) (by omega)]; exact x3.1
    have := claimL (fu := fu) (sn := sn) (un := un) (u := u) (k65 := fun (x1_3 : Int32) (x2_4 : Int32) => (if (q2 0 78) = 0 then (if x2_4 < x1_3 then some (-1) else some x2_4) else some (-1))) hG2 (fun j hj => by rw [f2 46 (by omega) (by omega), f2 47 (by omega) (by omega), g6 46 (by omega) (by omega), g6 47 (by omega) (by omega)]; exact hb j hj) hu nS 0 fu (by omega) (by omega) ⟨Nat.zero_le _, Nat.le_refl _⟩
    have e0 : f_X11_claimed fu q2 = f_X11_claimed_L9 fu q2 (fun (x1_3 : Int32) (x2_4 : Int32) => (if (q2 0 78) = 0 then (if x2_4 < x1_3 then some (-1) else some x2_4) else some (-1))) fu (nI (mxN sn 0)) (nI (mnN un u 0)) (nI 0) := by
      unfold f_X11_claimed
      exact nm_to hu7 rfl
    rw [e0, this, h78, ← hcl]
    split
    · split <;> rfl
    · rfl
  have hfin : bd (f_X11_makes fu 1 m) (fun M_18 => nm (up M_18 0 75 (M_18 0 68)) (fun M_19 => nm (up M_19 0 76 (M_19 0 69)) (fun M_20 => f_X11_ask_L159 fu (fun M_22 => bd (f_X11_claimed fu M_22) (fun r_24 => nm (up M_22 0 79 r_24) (fun M_25 => some ((M_25 0 75), M_25)))) fu (nI 0) M_20))) = some (nI k, up q2 0 79 cl) := by
    have g2' : f_X11_makes fu 1 m = some q := g2
    rw [g2', bd_some]
    refine nm_to (w := up q 0 75 (nI k)) (by rw [k4]) ?_
    refine nm_to (w := q1) (by rw [up_m (by omega), k6, hq1]) ?_
    rw [eq1, eCl, bd_some, nm_d, up_m (by omega), ← hq2, row_n (by omega), ← hq1, up_m (by omega), up_s]
  have fC : ∀ a, a ≠ 90 → a ≠ 91 → a ≠ 92 → up P 90 8 cl a = M a := fun a z1 z2 z3 => by rw [up_n z1, g4 a z1 z2 z3]
  have fC90 : ∀ j, j ≠ 5 → j ≠ 6 → j ≠ 8 → up P 90 8 cl 90 j = M 90 j := fun j z1 z2 z3 => by rw [up_m z3, g5 j z1 z2]
  have fM : ∀ a, a ≠ 0 → (a < 49 ∨ 56 < a) → up q2 0 79 cl a = m a := fun a z1 z2 => by rw [up_n z1, f2 a z1 (by omega), g6 a z1 (by omega)]
  have fM0 : ∀ j, j ≠ 68 → j ≠ 69 → j ≠ 71 → j ≠ 75 → j ≠ 76 → j ≠ 79 → up q2 0 79 cl 0 j = m 0 j := fun j z1 z2 z3 z4 z5 z6 => by rw [up_m z6, f20 j z4 z5, g7 j z1 z2 z3]
  refine ⟨up P 90 8 cl, up q2 0 79 cl, nI k, eC, by rw [up_m (by omega)]; exact k3, hfin, ?_, ?_⟩
  rotate_left
  · rw [fM0 0 (by omega) (by omega) (by omega) (by omega) (by omega) (by omega)]; exact x8.2
  -- the relation
  have hAB' : AB (up P 90 8 cl) (up (up q2 0 79 cl) 0 55 y) t u nS nL nC nO RR t0 dl c0 sc := by
    refine hAB.cg (fun a ha => fC a (by omega) (by omega) (by omega)) (fun a z1 z2 => ?_) (by rw [fC 120 (by omega) (by omega) (by omega)]) ⟨fC90 9 (by omega) (by omega) (by omega), fC90 10 (by omega) (by omega) (by omega), fC90 11 (by omega) (by omega) (by omega)⟩ (fun j hj => ?_)
    · rw [up_n (by omega), up_n (i := 0) (M := m) (by omega), fM a (by omega) (by omega)]
    · by_cases hj55 : j = 55
      · rw [hj55, up_s, up_s]
      · rw [up_m hj55, up_m hj55, fM0 j (by omega) (by omega) (by omega) (by omega) (by omega) (by omega)]
  generalize hN : up P 90 8 cl = N at *
  generalize hn : up q2 0 79 cl = n at *
  obtain ⟨w1, w2, w3, w4, w5, w6, w7, w8⟩ := hAB'
  have hDn : DS n (up n 0 55 y) := ⟨fun a _ _ => by rw [up_n (by omega)], fun j _ _ => by rw [up_m (by omega)]⟩
  refine ⟨RR, nS, nL, nC, nO, w1.of (w1.1.cg (fun _ _ _ _ => rfl) (by rw [up_m (by omega)]) (by rw [up_m (by omega)]) (by rw [up_m (by omega)]) (fun a _ _ => by rw [up_n (by omega)]) (fun a _ _ => by rw [up_n (by omega)])) (fun _ _ _ _ => rfl) (fun a _ _ => by rw [up_n (by omega)]) (by rw [up_m (by omega)]), w2.cg (fun _ _ _ => rfl) hDn, w3.cg hDn, w4.cg rfl (by rw [up_n (by omega)]), w5.cg rfl (by rw [up_n (by omega)]), by rw [w6, up_n (by omega)], ⟨⟨k, cols, k1, k2, ?_, ?_, ?_, ?_, fun x c' hx hc' => ?_⟩, ?_, ?_, ?_, ?_, ?_, nS, hS3, ?_, ?_, ?_⟩, x8.1.cg ⟨fun a z1 z2 => fC a (by omega) (by omega) (by omega), fun a z1 z2 => fM a (by omega) (by omega), fM0 85 (by omega) (by omega) (by omega) (by omega) (by omega) (by omega)⟩⟩
  · rw [← hN, up_m (by omega)]; exact k3
  · rw [← hn, up_m (by omega), ← hq2, row_n (by omega), ← hq1, up_m (by omega), up_s]
  · rw [← hN, up_m (by omega)]; exact k5
  · rw [← hn, up_m (by omega), ← hq2, row_n (by omega), ← hq1, up_s]
  · rw [← hN, up_n (by omega), k7 x c' hx hc', ← hn, up_n (by omega), ← hq2, row_s, pk_cpy_in (by omega) (by omega), f1 52 (by omega)]
    congr 1
    omega
  · rw [fC90 7 (by omega) (by omega) (by omega), fM0 78 (by omega) (by omega) (by omega) (by omega) (by omega) (by omega), h7, x3.1]
  · rw [← hN, up_s, ← hn, up_s]
  · have q4 := w7.2.2.2.1
    have q5 := w7.2.2.2.2.1
    rw [up_m (by omega)] at q5
    rw [q4, q5]
  · have q7 := w7.2.2.2.2.2.2.1
    rw [up_m (by omega)] at q7
    exact q7
  · have q8 := w7.2.2.2.2.2.2.2
    rw [up_m (by omega)] at q8
    exact q8
  · rw [fC90 12 (by omega) (by omega) (by omega)]; exact t1
  · rw [fM0 83 (by omega) (by omega) (by omega) (by omega) (by omega) (by omega)]; exact t2
  · rw [fC 93 (by omega) (by omega) (by omega), fC 94 (by omega) (by omega) (by omega), fM 57 (by omega) (by omega)]; exact x6
end Ask2
