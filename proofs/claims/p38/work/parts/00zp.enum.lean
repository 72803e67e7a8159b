/-! ===== the choices of rows, in their order: both ===== -/
def nnF (F : Nat → List Row) (nS j : Nat) : Nat := if j < nS then (F j).length else 1
def AT (m : Mem) (nS a b c : Nat) : Prop := (0 < nS → m 51 0 = nI a) ∧ (1 < nS → m 51 1 = nI b) ∧ (2 < nS → m 51 2 = nI c)
def FrE (a0 : Nat) (M m M0 mm : Mem) : Prop := (∀ x, x ≠ a0 → x ≠ a0 + 1 → x ≠ a0 + 2 → M x = M0 x) ∧ (∀ j, j ≠ 5 → M a0 j = M0 a0 j) ∧ (∀ x, x ≠ 0 → x ≠ 51 → x ≠ 52 → x ≠ 53 → x ≠ 54 → x ≠ 55 → m x = mm x) ∧ ∀ j, j ≠ 68 → j ≠ 71 → m 0 j = mm 0 j
def ER (M m : Mem) (a0 nS nL nC nO lim : Nat) (F : Nat → List Row) (V : List Int32) (mm M0 : Mem) : Prop := DR M m ∧ DG m nS nL nC nO ∧ (m 0 37 = nI lim ∧ lim ≤ 40 ∧ FrE a0 M m M0 mm ∧ DS m mm) ∧ (∀ j, j < nS → RC M (a0 + 5 + 1 + 3 * j) (F j) ∧ RW m j (F j) ∧ okR (F j)) ∧ (if m 0 38 = 0 then MS0 M a0 m nO lim else GS M a0 m V)
def waitM (fu : Nat) (k170 : Mem → Option Mem) (n : Nat) (m : Mem) : Option Mem := bm (f_X11_goesOn fu m) (fun r_22 M_23 => f_X11_makes_L126 fu k170 n r_22 M_23)
section Enum
variable {fu a0 nS nL nC nO lim a b c i j x : Nat} {M m N n mm M0 : Mem} {F : Nat → List Row} {R : Nat → Row} {V : List Int32} {k170 : Mem → Option Mem}
theorem ER.cg (h : ER M m a0 nS nL nC nO lim F V mm M0) (ha : 89 < a0) (fC : ∀ x, x ≠ a0 + 2 → N x = M x) (fM : ∀ x, x ≠ 51 → n x = m x) : ER N n a0 nS nL nC nO lim F V mm M0 := by
  obtain ⟨h1, h2, ⟨h3, h4, h5, h5'⟩, h6, h7⟩ := h
  have hD : DS n m := ⟨fun x _ _ => fM x (by omega), fun j _ _ => by rw [fM 0 (by omega)]⟩
  refine ⟨h1.cg (fun x _ _ => fC x (by omega)) hD, h2.cg hD, ⟨by rw [fM 0 (by omega)]; exact h3, h4, ⟨fun x z1 z2 z3 => by rw [fC x z3]; exact h5.1 x z1 z2 z3, fun j hj => by rw [fC a0 (by omega)]; exact h5.2.1 j hj, fun x z1 z2 z3 z4 z5 z6 => by rw [fM x z2]; exact h5.2.2.1 x z1 z2 z3 z4 z5 z6, fun j z1 z2 => by rw [fM 0 (by omega)]; exact h5.2.2.2 j z1 z2⟩, hD.trans h5'⟩, fun j hj => ?_, ?_⟩
  · obtain ⟨g1, g2, g3⟩ := h6 j hj
    exact ⟨g1.cg (by rw [fC _ (by omega)]) (fC _ (by omega)) (fC _ (by omega)), g2.cg (by rw [fM 49 (by omega)]) (fun x _ => by rw [fM 50 (by omega)]), g3⟩
  · rw [fM 0 (by omega)]
    by_cases h38 : m 0 38 = 0
    · rw [if_pos h38] at h7 ⊢
      obtain ⟨k, k1, k2, k3, k4⟩ := h7
      exact ⟨k, k1, by rw [fC _ (by omega)]; exact k2, by rw [fM 0 (by omega)]; exact k3, by rw [fC _ (by omega), fM 52 (by omega)]; exact k4⟩
    · rw [if_neg h38] at h7 ⊢
      obtain ⟨Gc, Gm, ⟨c1, c1'⟩, ⟨c2, c2'⟩, c3⟩ := h7
      exact ⟨Gc, Gm, ⟨by rw [fC _ (by omega)]; exact c1, by rw [fC _ (by omega)]; exact c1'⟩, ⟨by rw [fM 0 (by omega)]; exact c2, by rw [fM 53 (by omega), fM 54 (by omega), fM 55 (by omega)]; exact c2'⟩, c3⟩
theorem choices_eq (h : ER M m a0 nS nL nC nO lim F V mm M0) (hj : j < 3) : f_X0_choices fu a0 (nI j) M = some (nI (nnF F nS j)) := by
  obtain ⟨h1, h2, _, h6, _⟩ := h
  have hS := h2.1
  by_cases hjs : j < nS
  · have h3 : ¬ nS ≤ j := by omega
    have := (h6 j hjs).1.1
    simp (disch := omega) only [f_X0_choices, h1.1.1, hS.1, lit, nI_add, pk_mul, pk_sub, nI_clamp, inb_nI, nI_leI, nI_ltI, nI_eq, add_m1, ↓reduceIte, grd_true, nm_d, jn_d, bd_some, bm_some, om_some, om_none, h3, this, nnF, hjs]
  · have h3 : nS ≤ j := by omega
    simp (disch := omega) only [f_X0_choices, h1.1.1, hS.1, lit, nI_add, pk_mul, pk_sub, nI_clamp, inb_nI, nI_leI, nI_ltI, nI_eq, add_m1, ↓reduceIte, grd_true, nm_d, jn_d, bd_some, bm_some, om_some, om_none, h3, nnF, hjs]
theorem nn_le (h : ER M m a0 nS nL nC nO lim F V mm M0) (hj : j < 3) : nnF F nS j ≤ 12 := by
  simp only [nnF]
  split
  · exact (h.2.2.2.1 j (by assumption)).1.2.1
  · omega
/-- the rows that are chosen -/
def chR (F : Nat → List Row) (a b c : Nat) : Nat → Row := fun j => ((F j)[if j = 0 then a else if j = 1 then b else c]?).getD (0, 0, 0, 0, 0)
theorem chR_get (ha : a < nnF F nS 0) (hb : b < nnF F nS 1) (hc : c < nnF F nS 2) (hj : j < nS) (hS : nS ≤ 3) : (F j)[if j = 0 then a else if j = 1 then b else c]? = some (chR F a b c j) := by
  have hl : (if j = 0 then a else if j = 1 then b else c) < (F j).length := by
    by_cases h0 : j = 0
    · subst h0; simp only [nnF, hj, ↓reduceIte] at ha ⊢; exact ha
    · by_cases h1 : j = 1
      · subst h1; simp only [nnF, hj, ↓reduceIte] at hb ⊢; simpa using hb
      · have h2 : j = 2 := by omega
        subst h2; simp only [nnF, hj, ↓reduceIte] at hc ⊢; simpa using hc
  simp only [chR]
  rw [List.getElem?_eq_getElem hl]
  rfl
theorem pcs (h : ER M m a0 nS nL nC nO lim F V mm M0) (ha : a < nnF F nS 0) (hb : b < nnF F nS 1) (hc : c < nnF F nS 2) (hj : j < nS) (p0 : M (a0 + 2) j = nI (if j = 0 then a else if j = 1 then b else c)) : PC M a0 F j (chR F a b c j) := ⟨(h.2.2.2.1 j hj).1, _, p0, chR_get ha hb hc hj h.2.1.1.2⟩
theorem pms (h : ER M m a0 nS nL nC nO lim F V mm M0) (ha : a < nnF F nS 0) (hb : b < nnF F nS 1) (hc : c < nnF F nS 2) (hA : AT m nS a b c) (hj : j < nS) : PM m F j (chR F a b c j) := by
  have hS := h.2.1.1.2
  refine ⟨(h.2.2.2.1 j hj).2.1, _, ?_, chR_get ha hb hc hj hS⟩
  by_cases h0 : j = 0
  · subst h0; exact hA.1 hj
  · by_cases h1 : j = 1
    · subst h1; exact hA.2.1 hj
    · have h2 : j = 2 := by omega
      subst h2; exact hA.2.2 hj
theorem chR_mem (h : ER M m a0 nS nL nC nO lim F V mm M0) (ha : a < nnF F nS 0) (hb : b < nnF F nS 1) (hc : c < nnF F nS 2) (hj : j < nS) : chR F a b c j ∈ F j := List.mem_of_getElem? (chR_get ha hb hc hj h.2.1.1.2)
def kGo : Mem → Option (Int32 × Mem) := fun (M_5 : Mem) => (if (M_5 49 0) ≤ (M_5 51 0) then some (0, M_5) else some (1, M_5))
theorem go17s {k : Mem → Option (Int32 × Mem)} {n x : Nat} (hx : 0 < x) (hx3 : x < 3) : f_X11_goesOn_L17 fu k (n + 1) (nI x) M = if M 51 x = M 49 x then f_X11_goesOn_L17 fu k n (nI (x - 1)) (up (up M 51 x 0) 51 (x - 1) (M 51 (x - 1) + 1)) else k M := by
  have h1 : ¬ x ≤ 0 := by omega
  simp (disch := omega) only [f_X11_goesOn_L17, lit, nI_add, pk_mul, pk_sub, nI_clamp, inb_nI, nI_leI, nI_ltI, nI_eq, add_m1, ↓reduceIte, grd_true, nm_d, jn_d, bd_some, bm_some, om_some, om_none, h1, up_m]
theorem go17z {k : Mem → Option (Int32 × Mem)} {n : Nat} : f_X11_goesOn_L17 fu k (n + 1) (nI 0) M = k M := by
  have z : (nI 0 ≤ (0 : Int32)) := by decide
  simp only [f_X11_goesOn_L17, z, ↓reduceIte]
theorem goSplit {s : Nat} (hs : s < 3) (h : m 0 22 = nI (s + 1)) : f_X11_goesOn fu m = f_X11_goesOn_L17 fu kGo fu (nI s) (up m 51 s (m 51 s + 1)) := by
  have e : m 0 22 - 1 = nI s := by rw [h]; exact nI_pred s
  have c : (nI s).toNatClampNeg = s := nI_clamp (by omega)
  unfold f_X11_goesOn
  refine nm_to e ?_
  refine grd_to (inb_nI hs (by omega)) ?_
  refine nm_to (w := up m 51 s (m 51 s + 1)) (by rw [c]) ?_
  rfl
theorem kGo_eq {l x : Nat} (h1 : M 49 0 = nI l) (h2 : M 51 0 = nI x) (hl : l < 2 ^ 31) (hx : x < 2 ^ 31) : kGo M = if l ≤ x then some (0, M) else some (1, M) := by
  have hle : (nI l ≤ nI x) = (l ≤ x) := propext (nI_leI hl hx)
  simp only [kGo, h1, h2, hle]
/-- on to the next choice -/
theorem goesOn_ok (hfu : 5000 ≤ fu) (h : ER M m a0 nS nL nC nO lim F V mm M0) (hS0 : 0 < nS) (hA : AT m nS a b c) (ha : a < nnF F nS 0) (hb : b < nnF F nS 1) (hc : c < nnF F nS 2) : ∃ r n, f_X11_goesOn fu m = some (r, n) ∧ (∀ x, x ≠ 51 → n x = m x) ∧ ((c + 1 < nnF F nS 2 ∧ r = 1 ∧ AT n nS a b (c + 1)) ∨ (c + 1 = nnF F nS 2 ∧ b + 1 < nnF F nS 1 ∧ r = 1 ∧ AT n nS a (b + 1) 0) ∨ (c + 1 = nnF F nS 2 ∧ b + 1 = nnF F nS 1 ∧ a + 1 < nnF F nS 0 ∧ r = 1 ∧ AT n nS (a + 1) 0 0) ∨ (c + 1 = nnF F nS 2 ∧ b + 1 = nnF F nS 1 ∧ a + 1 = nnF F nS 0 ∧ r = 0)) := by
  have hS := h.2.1.1
  have n0 := nn_le h (j := 0) (by omega)
  have n1 := nn_le h (j := 1) (by omega)
  have n2 := nn_le h (j := 2) (by omega)
  have w0 := (h.2.2.2.1 0 hS0).2.1.1
  have e0 : nnF F nS 0 = (F 0).length := by simp only [nnF, hS0, ↓reduceIte]
  obtain ⟨f, rfl⟩ : ∃ f, fu = f + 3 := ⟨fu - 3, by omega⟩
  clear hfu
  have hcase : nS = 1 ∨ nS = 2 ∨ nS = 3 := by omega
  have a1 := hA.1 hS0
  rcases hcase with rfl | rfl | rfl
  · -- one seat
    have e1 : nnF F 1 1 = 1 := by simp [nnF]
    have e2 : nnF F 1 2 = 1 := by simp [nnF]
    rw [goSplit (s := 0) (by omega) hS.1, go17z (n := f + 2), a1, nI_1, kGo_eq (l := (F 0).length) (x := a + 1) (by rw [up_n (by omega)]; exact w0) up_s (by omega) (by omega)]
    by_cases hend : (F 0).length ≤ a + 1
    · rw [if_pos hend]
      exact ⟨0, _, rfl, fun x hx => up_n hx, Or.inr (Or.inr (Or.inr ⟨by omega, by omega, by omega, rfl⟩))⟩
    · rw [if_neg hend]
      exact ⟨1, _, rfl, fun x hx => up_n hx, Or.inr (Or.inr (Or.inl ⟨by omega, by omega, by omega, rfl, ⟨fun _ => up_s, fun h => by omega, fun h => by omega⟩⟩))⟩
  · -- two seats
    have e1 : nnF F 2 1 = (F 1).length := by simp [nnF]
    have e2 : nnF F 2 2 = 1 := by simp [nnF]
    have a2 := hA.2.1 (by omega)
    have w1 := (h.2.2.2.1 1 (by omega)).2.1.1
    have hq : (nI (b + 1) = nI (F 1).length) = (b + 1 = (F 1).length) := propext (nI_eq (by omega) (by omega))
    rw [goSplit (s := 1) (by omega) hS.1, go17s (n := f + 2) (by omega) (by omega), up_s, up_n (show 49 ≠ 51 by omega), w1, a2, nI_1]
    simp only [hq]
    by_cases hbe : b + 1 = (F 1).length
    · rw [if_pos hbe, show 1 - 1 = 0 by omega, go17z (n := f + 1), up_m (show 0 ≠ 1 by omega), a1, nI_1, kGo_eq (l := (F 0).length) (x := a + 1) (by rw [up_n (by omega), up_n (by omega), up_n (by omega)]; exact w0) up_s (by omega) (by omega)]
      by_cases hend : (F 0).length ≤ a + 1
      · rw [if_pos hend]
        exact ⟨0, _, rfl, fun x hx => by rw [up_n hx, up_n hx, up_n hx], Or.inr (Or.inr (Or.inr ⟨by omega, by omega, by omega, rfl⟩))⟩
      · rw [if_neg hend]
        exact ⟨1, _, rfl, fun x hx => by rw [up_n hx, up_n hx, up_n hx], Or.inr (Or.inr (Or.inl ⟨by omega, by omega, by omega, rfl, ⟨fun _ => up_s, fun _ => by rw [up_m (by omega), up_s]; rfl, fun h => by omega⟩⟩))⟩
    · rw [if_neg hbe, kGo_eq (l := (F 0).length) (x := a) (by rw [up_n (by omega)]; exact w0) (by rw [up_m (by omega)]; exact a1) (by omega) (by omega), if_neg (by omega)]
      exact ⟨1, _, rfl, fun x hx => up_n hx, Or.inr (Or.inl ⟨by omega, by omega, rfl, ⟨fun _ => by rw [up_m (by omega)]; exact a1, fun _ => up_s, fun h => by omega⟩⟩)⟩
  · -- three seats
    have e1 : nnF F 3 1 = (F 1).length := by simp [nnF]
    have e2 : nnF F 3 2 = (F 2).length := by simp [nnF]
    have a2 := hA.2.1 (by omega)
    have a3 := hA.2.2 (by omega)
    have w1 := (h.2.2.2.1 1 (by omega)).2.1.1
    have w2 := (h.2.2.2.1 2 (by omega)).2.1.1
    have hq : (nI (b + 1) = nI (F 1).length) = (b + 1 = (F 1).length) := propext (nI_eq (by omega) (by omega))
    have hqc : (nI (c + 1) = nI (F 2).length) = (c + 1 = (F 2).length) := propext (nI_eq (by omega) (by omega))
    rw [goSplit (s := 2) (by omega) hS.1, go17s (n := f + 2) (by omega) (by omega), up_s, up_n (show 49 ≠ 51 by omega), w2, a3, nI_1]
    simp only [hqc]
    by_cases hce : c + 1 = (F 2).length
    · rw [if_pos hce, show 2 - 1 = 1 by omega, up_m (show 1 ≠ 2 by omega), a2, nI_1, go17s (n := f + 1) (by omega) (by omega), up_s, up_n (show 49 ≠ 51 by omega), up_n (show 49 ≠ 51 by omega), up_n (show 49 ≠ 51 by omega), w1]
      simp only [hq]
      by_cases hbe : b + 1 = (F 1).length
      · rw [if_pos hbe, show 1 - 1 = 0 by omega, go17z (n := f), up_m (show 0 ≠ 1 by omega), up_m (show 0 ≠ 2 by omega), up_m (show 0 ≠ 2 by omega), a1, nI_1, kGo_eq (l := (F 0).length) (x := a + 1) (by rw [up_n (by omega), up_n (by omega), up_n (by omega), up_n (by omega), up_n (by omega)]; exact w0) up_s (by omega) (by omega)]
        by_cases hend : (F 0).length ≤ a + 1
        · rw [if_pos hend]
          exact ⟨0, _, rfl, fun x hx => by rw [up_n hx, up_n hx, up_n hx, up_n hx, up_n hx], Or.inr (Or.inr (Or.inr ⟨by omega, by omega, by omega, rfl⟩))⟩
        · rw [if_neg hend]
          exact ⟨1, _, rfl, fun x hx => by rw [up_n hx, up_n hx, up_n hx, up_n hx, up_n hx], Or.inr (Or.inr (Or.inl ⟨by omega, by omega, by omega, rfl, ⟨fun _ => up_s, fun _ => by rw [up_m (by omega), up_s]; rfl, fun _ => by rw [up_m (by omega), up_m (by omega), up_m (by omega), up_s]; rfl⟩⟩))⟩
      · rw [if_neg hbe, kGo_eq (l := (F 0).length) (x := a) (by rw [up_n (by omega), up_n (by omega), up_n (by omega)]; exact w0) (by rw [up_m (by omega), up_m (by omega), up_m (by omega)]; exact a1) (by omega) (by omega), if_neg (by omega)]
        exact ⟨1, _, rfl, fun x hx => by rw [up_n hx, up_n hx, up_n hx], Or.inr (Or.inl ⟨by omega, by omega, rfl, ⟨fun _ => by rw [up_m (by omega), up_m (by omega), up_m (by omega)]; exact a1, fun _ => up_s, fun _ => by rw [up_m (by omega), up_s]; rfl⟩⟩)⟩
    · rw [if_neg hce, kGo_eq (l := (F 0).length) (x := a) (by rw [up_n (by omega)]; exact w0) (by rw [up_m (by omega)]; exact a1) (by omega) (by omega), if_neg (by omega)]
      exact ⟨1, _, rfl, fun x hx => up_n hx, Or.inl ⟨by omega, rfl, ⟨fun _ => by rw [up_m (by omega)]; exact a1, fun _ => by rw [up_m (by omega)]; exact a2, fun _ => up_s⟩⟩⟩
end Enum
