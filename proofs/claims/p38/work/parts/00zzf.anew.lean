/-! ===== answers anew ===== -/
def sv (m : Mem) (j : Nat) : Nat := (m 19 j).toNatClampNeg
section Anew
variable {fu nS nL nC nO i j s t u e p c k : Nat} {M m N n : Mem} {RR RR' : Nat → List Row} {R : List Row} {v x p1 p2 p3 p4 p5 p6 : Int32} {km : Nat → Nat} {f : Option XR} {g : Option (Int32 × Mem)}
theorem REL.an (h : REL M m t u) (fC : ∀ a, a < 105 ∨ 119 < a → N a = M a) (fM : ∀ a, a ≠ 0 → a < 49 ∨ 55 < a → n a = m a) (f0 : ∀ j, j ≠ 0 → j < 68 ∨ 71 < j → n 0 j = m 0 j) : REL N n t u := by
  obtain ⟨RR, nS, nL, nC, nO, w1, w2, w3, w4, w5, w6, ⟨⟨k, cols, k1, k2, k3, k4, k5, k6, k7⟩, l2, l3, l4, l5, l6, p, p1, p2, p3, p4⟩, w8⟩ := h
  have hD : DS n m := ⟨fun a z1 z2 => fM a (by omega) (by omega), fun j z1 z2 => f0 j (by omega) (by omega)⟩
  refine ⟨RR, nS, nL, nC, nO, w1.of (w1.1.cg (fun a z1 z2 z3 => fC a (by omega)) (f0 7 (by omega) (by omega)) (f0 8 (by omega) (by omega)) (f0 39 (by omega) (by omega)) (fun a z1 z2 => fM a (by omega) (by omega)) (fun a z1 z2 => fM a (by omega) (by omega))) (fun a z1 z2 z3 => fC a (by omega)) (fun a z1 z2 => fM a (by omega) (by omega)) (f0 6 (by omega) (by omega)), w2.cg (fun a z1 z2 => fC a (by omega)) hD, w3.cg hD, w4.cg (fC 59 (by omega)) (fM 18 (by omega) (by omega)), w5.cg (fC 54 (by omega)) (fM 17 (by omega) (by omega)), by rw [fC 121 (by omega), fM 48 (by omega) (by omega)]; exact w6, ⟨⟨k, cols, k1, k2, by rw [fC 90 (by omega)]; exact k3, by rw [f0 75 (by omega) (by omega)]; exact k4, by rw [fC 90 (by omega)]; exact k5, by rw [f0 76 (by omega) (by omega)]; exact k6, fun x c hx hc => by rw [fC 91 (by omega), fM 56 (by omega) (by omega)]; exact k7 x c hx hc⟩, ?_, ?_, ?_, ?_, ?_, p, p1, ?_, ?_, ?_⟩, w8.cg ⟨fun a z1 z2 => fC a (by omega), fun a z1 z2 => fM a (by omega) (by omega), f0 85 (by omega) (by omega)⟩⟩
  · rw [fC 90 (by omega), f0 78 (by omega) (by omega)]; exact l2
  · rw [fC 90 (by omega), f0 79 (by omega) (by omega)]; exact l3
  · rw [fC 90 (by omega), f0 80 (by omega) (by omega)]; exact l4
  · rw [fC 90 (by omega), f0 81 (by omega) (by omega)]; exact l5
  · rw [fC 90 (by omega), f0 82 (by omega) (by omega)]; exact l6
  · rw [fC 90 (by omega)]; exact p2
  · rw [f0 83 (by omega) (by omega)]; exact p3
  · rw [fC 93 (by omega), fC 94 (by omega), fM 57 (by omega) (by omega)]; exact p4
theorem anewL {K : Mem → Option Mem} (hfu : 5000 ≤ fu) (hG : DG m nS nL nC nO) (hok : ∀ s, s < 6 → okR (RR s)) : ∀ d y q (M : Mem), y + d = nS → d < q → DR M m → (∀ s, s < 6 → RC M (62 + 3 * s) (RR s)) → (∀ j, j < y → RC M (111 + 3 * j) (FF m nC (fun j => RR (sv m j)) j)) → ∃ N, f_X10_makeAnew_L2 fu K q (nI y) M = K N ∧ DR N m ∧ (∀ j, j < nS → RC N (111 + 3 * j) (FF m nC (fun j => RR (sv m j)) j)) ∧ ∀ a, a < 111 ∨ 119 < a → N a = M a := by
  have hS3 := hG.1.2
  have i1 := hG.2.2.2.2.2.2.1
  intro d
  induction d with
  | zero =>
    intro y q M h1 h2 hD hR h3
    obtain ⟨q, rfl⟩ := fu1 h2
    obtain rfl : y = nS := by omega
    have h80 : M 80 9 = nI y := by rw [hD.1.1, hG.1.1]
    exact ⟨M, by simp (disch := omega) only [f_X10_makeAnew_L2, h80, lit, nI_add, pk_mul, pk_sub, nI_clamp, inb_nI, nI_leI, nI_ltI, nI_eq, add_m1, ↓reduceIte, grd_true, nm_d, jn_d, bd_some, bm_some, om_some, om_none, Nat.le_refl], hD, h3, fun _ _ => rfl⟩
  | succ d ih =>
    intro y q M h1 h2 hD hR h3
    obtain ⟨q, rfl⟩ := fu1 h2
    have h80 : M 80 9 = nI nS := by rw [hD.1.1, hG.1.1]
    have h4 : ¬ nS ≤ y := by omega
    obtain ⟨s, hs, es⟩ := i1 y (by omega)
    have esv : sv m y = s := by simp (disch := omega) only [sv, es, nI_clamp]
    have e81 : M 81 y = nI s := by rw [hD.2.1.1, es]
    have rR := copy_RC (a := 111 + 3 * y) (hR s hs)
    have ecp := copy_eq (fu := fu) (M := M) (a := 111 + 3 * y) (b := 62 + 3 * s) (Or.inr (by omega))
    generalize hP : row (row (up M (111 + 3 * y) 2 (M (62 + 3 * s) 2)) (111 + 3 * y + 1) (va_cpy (M (62 + 3 * s + 1)) (M (111 + 3 * y + 1)) 0 0 12)) (111 + 3 * y + 2) (va_cpy (M (62 + 3 * s + 2)) (M (111 + 3 * y + 2)) 0 0 48) = P at rR ecp
    have fP : ∀ a, a ≠ 111 + 3 * y → a ≠ 111 + 3 * y + 1 → a ≠ 111 + 3 * y + 2 → P a = M a := fun a z1 z2 z3 => by rw [← hP, row_n z3, row_n z2, up_n z1]
    have hDP : DR P m := hD.cg (fun a z1 z2 => fP a (by omega) (by omega) (by omega)) .rfl
    obtain ⟨Q, k1, k2, k3⟩ := keepW_ok (a := 105) (i := y) (fu := fu) hfu hDP hG (by omega) (by omega) (hok s hs) (by rw [show 105 + 5 + 1 + 3 * y = 111 + 3 * y by omega]; exact rR)
    rw [show 105 + 5 + 1 + 3 * y = 111 + 3 * y by omega] at k2
    have k3' : ∀ a, a ≠ 111 + 3 * y → a ≠ 111 + 3 * y + 1 → a ≠ 111 + 3 * y + 2 → Q a = M a := fun a z1 z2 z3 => by rw [k3 a (by omega) (by omega) (by omega), fP a z1 z2 z3]
    obtain ⟨N, g1, g2, g3, g4⟩ := ih (y + 1) q Q (by omega) (by omega) (hD.cg (fun a z1 z2 => k3' a (by omega) (by omega) (by omega)) .rfl) (fun s' hs' => (hR s' hs').cg (by rw [k3' _ (by omega) (by omega) (by omega)]) (k3' _ (by omega) (by omega) (by omega)) (k3' _ (by omega) (by omega) (by omega))) (fun j hj => by
      by_cases hjy : j = y
      · subst hjy
        simp only [FF, esv]
        exact k2
      · exact (h3 j (by omega)).cg (by rw [k3' _ (by omega) (by omega) (by omega)]) (k3' _ (by omega) (by omega) (by omega)) (k3' _ (by omega) (by omega) (by omega)))
    refine ⟨N, ?_, g2, g3, fun a ha => by rw [g4 a ha, k3' a (by omega) (by omega) (by omega)]⟩
    rw [← g1]
    simp (disch := omega) only [f_X10_makeAnew_L2, h80, lit, nI_add, pk_mul, pk_sub, nI_clamp, inb_nI, nI_leI, nI_ltI, nI_eq, add_m1, ↓reduceIte, grd_true, nm_d, jn_d, bd_some, bm_some, om_some, om_none, h4, Nat.reduceAdd, e81, ecp, k1]
/-- answers made anew: both -/
theorem anew2 (hfu : 5000 ≤ fu) (h : REL M m t u) (hd : ¬ m 0 22 ≤ 0 ∧ ¬ m 0 34 ≤ 0) : ∃ N n, f_X10_makeAnew fu M = some N ∧ f_X11_makes fu 0 m = some n ∧ AR N 105 n ∧ REL N n t u ∧ n 0 0 = m 0 0 := by
  obtain ⟨RR, nS, nL, nC, nO, w1, w2, w3, _⟩ := id h
  obtain ⟨hS0, hO⟩ := w3.dr.mpr hd
  have hS3 := w3.1.2
  have i1 := w3.2.2.2.2.2.2.1
  obtain ⟨P, g1, g2, g3, g4⟩ := anewL (K := fun (M_2 : Mem) => bd (f_X0_make fu 105 M_2) (fun M_4 => some M_4)) (RR := RR) hfu w3 (fun s hs => (w1.2.2.1 s hs).2.1) nS 0 fu M (by omega) (by omega) w2 (fun s hs => (w1.2.1 s hs).1) (fun j hj => by omega)
  have hsv : ∀ i, i < nS → sv m i < 6 ∧ m 19 i = nI (sv m i) := fun i hi => by
    obtain ⟨s, hs, es⟩ := i1 i hi
    have esv : sv m i = s := by simp (disch := omega) only [sv, es, nI_clamp]
    rw [esv]
    exact ⟨hs, es⟩
  obtain ⟨N, n, m1, m2, m3, m4, m5, m6, m7⟩ := make2 (fu := fu) (a0 := 105) (hh := false) (M := P) (m := m) (A := fun j => RR (sv m j)) hfu (by omega) g2 w3 hS0 hO (fun i hi => ⟨(fun z => by cases z), fun _ => ⟨sv m i, (hsv i hi).1, (hsv i hi).2, (w1.2.1 _ (hsv i hi).1).2⟩⟩) (fun i hi => (w1.2.2.1 _ (hsv i hi).1).2.1) (fun j hj => by rw [show 105 + 5 + 1 + 3 * j = 111 + 3 * j by omega]; exact g3 j hj)
  refine ⟨N, n, ?_, m2, m3, h.an (fun a ha => ?_) (fun a z1 z2 => m6 a z1 z2) (fun j z1 z2 => m7 j (by omega) (by omega) (by omega)), m7 0 (by omega) (by omega) (by omega)⟩
  · simp only [f_X10_makeAnew, jn_d]
    refine g1.trans ?_
    rw [m1, bd_some]
  · rw [m4 a (by omega) (by omega) (by omega), g4 a (by omega)]
theorem drafted (h : REL M m t u) : f_X4_isQuery fu M = f_X11_isDrafted fu m := by
  obtain ⟨RR, nS, nL, nC, nO, w⟩ := h
  obtain ⟨⟨a1, a2, a3, a4, _⟩, _⟩ := w.2.1
  simp only [f_X4_isQuery, f_X11_isDrafted, a1, a4]
theorem drafted2 : (f_X11_isDrafted fu m = some 1 ∧ ¬ m 0 22 ≤ 0 ∧ ¬ m 0 34 ≤ 0) ∨ f_X11_isDrafted fu m = some 0 := by
  simp only [f_X11_isDrafted]
  by_cases z : m 0 22 ≤ 0
  · exact Or.inr (by simp [z])
  · by_cases z' : m 0 34 ≤ 0
    · exact Or.inr (by simp [z'])
    · exact Or.inl ⟨by simp [z, z'], z, z'⟩
theorem answersAnew_call (hfu : 5000 ≤ fu) (h : REL M m t u) : OUT kmN t u (f_X10_answersAnew fu M) (f_X11_answersAnew fu m) := by
  have e1 := drafted (fu := fu) h
  rcases drafted2 (fu := fu) (m := m) with ⟨e2, hd⟩ | e2
  · obtain ⟨N, n, g1, g2, ⟨k, cols, k1, k2, k3, k4, k5, k6, k7⟩, g4, g5⟩ := anew2 (fu := fu) hfu (h.up0 0) (by rw [up_m (by omega), up_m (by omega)]; exact hd)
    refine ⟨0, nI k, N, nI k, n, t, u, ?_, ?_, by rw [g5, up_s]; rfl, fun _ => rfl, by decide, Nat.le_refl _, by omega, Nat.le_refl _, by omega, g4⟩
    · simp only [f_X10_answersAnew, e1, e2, bd_some, f_X10_needState, i10, if_false, bx_0, g1, k3]
    · simp only [f_X11_answersAnew, e2, bd_some, nm_d, i10, if_false, up_s, Int32.le_refl, if_true, g2, k4]
  · refine OUT.same (k := 3) (v := 0) (p1 := 0) h (by omega) ?_ ?_ (fun hk => by omega)
    · simp only [f_X10_answersAnew, e1, e2, bd_some, f_X10_needState, if_true, bx_3, xer]
    · simp only [f_X11_answersAnew, e2, bd_some, nm_d, if_true, up_s, le10, if_false]
      rfl
theorem OUT.same' {k : Nat} (h : REL N n t u) (hk : k ≤ 3) (hf : f = some (k, v, N)) (hg : g = some (p1, up n 0 0 (nI (km k)))) (he : k = 0 → v = p1) (hkm : km k ≤ 3 ∧ (km k = 0 → k = 0) := by decide) : OUT km t u f g :=
  ⟨k, v, N, p1, _, t, u, hf, hg, up_s, he, ⟨hk, hkm⟩, Nat.le_refl _, by omega, Nat.le_refl _, by omega, h.up0 _⟩
theorem answerAnew_call (hfu : 5000 ≤ fu) (h : REL M m t u) : OUT kmN t u (f_X10_answerAnew fu p1 p2 M) (f_X11_answerAnew fu p1 p2 m) := by
  have e1 := drafted (fu := fu) h
  rcases drafted2 (fu := fu) (m := m) with ⟨e2, hd⟩ | e2
  rotate_left
  · refine OUT.same (k := 3) (v := 0) (p1 := 0) h (by omega) ?_ ?_ (fun hk => by omega)
    · simp only [f_X10_answerAnew, e1, e2, bd_some, f_X10_needState, if_true, bx_3, xer]
    · simp only [f_X11_answerAnew, e2, bd_some, nm_d, if_true, up_s, le10, if_false]
      rfl
  obtain ⟨N, n, g1, g2, ⟨k, cols, k1, k2, k3, k4, k5, k6, k7⟩, g4, g5⟩ := anew2 (fu := fu) hfu (h.up0 0) (by rw [up_m (by omega), up_m (by omega)]; exact hd)
  have eJ : (f_X11_in p1 0 (n 0 68 - 1) = 0) = (p1 < 0 ∨ nI k ≤ p1) := by rw [k4, inm1 (by omega)]
  have eK : (f_X11_in p2 0 (n 0 69 - 1) = 0) = (p2 < 0 ∨ nI cols ≤ p2) := by rw [k6, inm1 (by omega)]
  have eI : f_X0_hasCell fu 105 p1 p2 N = some (if p1 < 0 ∨ nI k ≤ p1 then 0 else if p2 < 0 ∨ nI cols ≤ p2 then 0 else 1) := by
    simp only [f_X0_hasCell, k3, k5]
    by_cases z1 : p1 < 0 <;> by_cases z2 : nI k ≤ p1 <;> by_cases z3 : p2 < 0 <;> by_cases z4 : nI cols ≤ p2 <;> simp [z1, z2, z3, z4]
  rcases idx k (by omega) p1 with h1 | ⟨x, hx, rfl⟩
  · refine OUT.same' (k := 1) (v := 0) (p1 := 0) (N := N) (n := n) g4 (by omega) ?_ ?_ (fun hk => by omega)
    · simp only [f_X10_answerAnew, e1, e2, bd_some, f_X10_needState, i10, if_false, bx_0, g1, eI, h1, if_true, f_X10_needPlace, bx_1, xer]
    · simp only [f_X11_answerAnew, e2, bd_some, nm_d, i10, if_false, up_s, Int32.le_refl, if_true, g2, eJ, h1, le20]
      rfl
  have q1 := good (b := k) (by omega) hx
  rcases idx cols (by omega) p2 with h2 | ⟨c, hc, rfl⟩
  · refine OUT.same' (k := 1) (v := 0) (p1 := 0) (N := N) (n := n) g4 (by omega) ?_ ?_ (fun hk => by omega)
    · simp only [f_X10_answerAnew, e1, e2, bd_some, f_X10_needState, i10, if_false, bx_0, g1, eI, q1, h2, if_true, f_X10_needPlace, bx_1, xer]
    · simp only [f_X11_answerAnew, e2, bd_some, nm_d, i10, if_false, up_s, Int32.le_refl, if_true, g2, eJ, eK, q1, h2, le20]
      rfl
  have q2 := good (b := cols) (by omega) hc
  have ex : nI x * 3 + nI c = nI (3 * x + c) := by rw [show (3 : Int32) = nI 3 from rfl, pk_mul, nI_add, Nat.mul_comm]
  have ey : 3 * nI x + nI c = nI (3 * x + c) := by rw [show (3 : Int32) = nI 3 from rfl, pk_mul, nI_add]
  refine OUT.same' (k := 0) (v := N 106 (3 * x + c)) (p1 := n 52 (3 * x + c)) (N := N) (n := n) g4 (by omega) ?_ ?_ (fun _ => k7 x c hx hc)
  · simp (disch := omega) only [f_X10_answerAnew, e1, e2, bd_some, f_X10_needState, i10, if_false, bx_0, g1, eI, q1, q2, f_X10_needPlace, f_X0_answerAt, ex, inb_nI, grd_true, nI_clamp, Nat.reduceAdd]
  · simp (disch := omega) only [f_X11_answerAnew, e2, bd_some, nm_d, i10, if_false, up_s, Int32.le_refl, if_true, g2, eJ, eK, q1, q2, ey, inb_nI, grd_true, nI_clamp, up_n]
    rfl
end Anew
