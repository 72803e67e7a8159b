/-! ===== all choices are gone through: both ===== -/
def meas (F : Nat → List Row) (nS a b c : Nat) : Nat := 144 * (nnF F nS 0 - 1 - a) + 12 * (nnF F nS 1 - 1 - b) + (nnF F nS 2 - 1 - c)
section Run
variable {fu a0 nS nL nC nO lim a b c i j x : Nat} {M m N n mm M0 : Mem} {F : Nat → List Row} {R : Nat → Row} {V : List Int32} {k170 : Mem → Option Mem} {Q : Option Mem → Option Mem → Prop}
theorem body {lk : Bool} {k : Nat} (h : f_X11_areLinked fu m = some (bI lk)) : f_X11_makes_L126 fu k170 (k + 1) 1 m = if lk = true then (if m 0 38 = 0 then bd (f_X11_addsMatch fu m) (fun M_29 => waitM fu k170 k M_29) else bd (f_X11_addsToGroup fu m) (fun M_29 => waitM fu k170 k M_29)) else waitM fu k170 k m := by
  have i1 : ¬ (1 : Int32) = 0 := by decide
  cases lk with
  | true =>
    have e : bI true = 1 := rfl
    rw [e] at h
    simp only [f_X11_makes_L126, i1, ↓reduceIte, h, bd_some, jn_d, waitM]
  | false =>
    have e : bI false = 0 := rfl
    rw [e] at h
    simp only [f_X11_makes_L126, i1, ↓reduceIte, h, bd_some, jn_d, waitM, Bool.false_eq_true]
theorem ov_ds (h : DS m mm) : ov m = ov mm := by
  funext R o
  simp only [ov, h.1 28 (by omega) (by omega), h.1 29 (by omega) (by omega)]
theorem lk1_ds (h : DS m mm) : lk1 m = lk1 mm := by
  funext R l
  simp only [lk1, h.1 20 (by omega) (by omega), h.1 21 (by omega) (by omega), h.1 22 (by omega) (by omega), h.1 23 (by omega) (by omega)]
theorem lkS_ds (h : DS m mm) : lkS m = lkS mm := by
  funext R j l
  simp only [lkS, lk1_ds h, h.1 22 (by omega) (by omega)]
theorem areLk {k : Nat} (hfu : 5000 ≤ fu) (h : ER M m a0 nS nL nC nO lim F V mm M0) (ha : a < nnF F nS 0) (hb : b < nnF F nS 1) (hc : c < nnF F nS 2) (hA : AT m nS a b c) : f_X11_areLinked fu m = some (bI (al (lk1 mm (chR F a b c)) nL)) := by
  have e := areLinked_eq (fu := fu) (R := chR F a b c) hfu h.2.1 (fun i hi => pms h ha hb hc hA hi) (fun i hi c' hc' => (h.2.2.2.1 i hi).2.2 _ (chR_mem h ha hb hc hi) c' hc')
  rw [lk1_ds h.2.2.1.2.2.2] at e
  exact e
theorem skip1 {k : Nat} (hfu : 5000 ≤ fu) (h : ER M m a0 nS nL nC nO lim F V mm M0) (ha : a < nnF F nS 0) (hb : b < nnF F nS 1) (hc : c < nnF F nS 2) (hA : AT m nS a b c) (hlk : al (lk1 mm (chR F a b c)) nL = false) : f_X11_makes_L126 fu k170 (k + 1) 1 m = waitM fu k170 k m := by
  rw [body (areLk (k := k) hfu h ha hb hc hA), hlk, if_neg (by decide)]
theorem tuple {k : Nat} (hfu : 5000 ≤ fu) (h0 : 89 < a0) (hO : 0 < nO) (hV : V.length ≤ 12) (hVm : ∀ R : Nat → Row, (∀ j, j < nS → R j ∈ F j) → ov mm R 0 ∈ V) (h : ER M m a0 nS nL nC nO lim F V mm M0) (ha : a < nnF F nS 0) (hb : b < nnF F nS 1) (hc : c < nnF F nS 2) (hA : AT m nS a b c) (p0 : M (a0 + 2) 0 = nI a) (p1 : M (a0 + 2) 1 = nI b) (p2 : M (a0 + 2) 2 = nI c) (hlk : al (lk1 mm (chR F a b c)) nL = true) : ∃ N n, f_X0_takeMatch fu a0 M = some N ∧ f_X11_makes_L126 fu k170 (k + 1) 1 m = waitM fu k170 k n ∧ ER N n a0 nS nL nC nO lim F V mm M0 ∧ AT n nS a b c ∧ N (a0 + 2) = M (a0 + 2) := by
  have eL := areLk (k := k) hfu h ha hb hc hA
  rw [body eL, hlk, if_pos rfl]
  obtain ⟨h1, h2, ⟨h3, h4, h5, h5'⟩, h6, h7⟩ := (id h)
  have hS3 := h2.1.2
  have hPC : ∀ j, j < nS → PC M a0 F j (chR F a b c j) := fun j hj => pcs h ha hb hc hj (by
    have : j = 0 ∨ j = 1 ∨ j = 2 := by omega
    rcases this with rfl | rfl | rfl
    · exact p0
    · exact p1
    · exact p2)
  have hPM : ∀ j, j < nS → PM m F j (chR F a b c j) := fun j hj => pms h ha hb hc hA hj
  by_cases h38 : m 0 38 = 0
  · rw [if_pos h38]
    rw [if_pos h38] at h7
    obtain ⟨N, n, g1, g2, g3, g4, g5, g6, g7⟩ := match0 (fu := fu) hfu h1 h2 h0 h4 h3 h38 hPC hPM h7
    have hD : DS n m := ⟨fun x _ _ => g6 x (by omega) (by omega), fun j _ _ => g7 j (by omega)⟩
    refine ⟨N, n, g1, by rw [g2, bd_some], ⟨h1.cg (fun x _ _ => g4 x (by omega) (by omega)) hD, h2.cg hD, ⟨by rw [g7 37 (by omega)]; exact h3, h4, ⟨fun x z1 z2 z3 => by rw [g4 x z1 z2]; exact h5.1 x z1 z2 z3, fun j hj => by rw [g5 j hj]; exact h5.2.1 j hj, fun x z1 z2 z3 z4 z5 z6 => by rw [g6 x z1 z3]; exact h5.2.2.1 x z1 z2 z3 z4 z5 z6, fun j z1 z2 => by rw [g7 j z1]; exact h5.2.2.2 j z1 z2⟩, hD.trans h5'⟩, fun j hj => ?_, ?_⟩, ?_, g4 _ (by omega) (by omega)⟩
    · obtain ⟨y1, y2, y3⟩ := h6 j hj
      exact ⟨y1.cg (by rw [g4 _ (by omega) (by omega)]) (g4 _ (by omega) (by omega)) (g4 _ (by omega) (by omega)), y2.cg (by rw [g6 49 (by omega) (by omega)]) (fun x _ => by rw [g6 50 (by omega) (by omega)]), y3⟩
    · rw [g7 38 (by omega), if_pos h38]; exact g3
    · rw [AT, g6 51 (by omega) (by omega)]; exact hA
  · rw [if_neg h38]
    rw [if_neg h38] at h7
    have hv : ov m (chR F a b c) 0 ∈ V := by rw [ov_ds h5']; exact hVm _ (fun j hj => chR_mem h ha hb hc hj)
    obtain ⟨N, n, g1, g2, g3, g4, g5, g6, g7⟩ := match1 (fu := fu) hfu h1 h2 h0 h38 hO hPC hPM (fun j hj c' hc' => (h6 j hj).2.2 _ (chR_mem h ha hb hc hj) c' hc') hV hv h7
    have hD : DS n m := ⟨fun x _ _ => g6 x (by omega) (by omega) (by omega) (by omega), fun j _ _ => g7 j (by omega)⟩
    refine ⟨N, n, g1, by rw [g2, bd_some], ⟨h1.cg (fun x _ _ => g4 x (by omega) (by omega)) hD, h2.cg hD, ⟨by rw [g7 37 (by omega)]; exact h3, h4, ⟨fun x z1 z2 z3 => by rw [g4 x z1 z2]; exact h5.1 x z1 z2 z3, fun j hj => by rw [g5 j hj]; exact h5.2.1 j hj, fun x z1 z2 z3 z4 z5 z6 => by rw [g6 x z1 z4 z5 z6]; exact h5.2.2.1 x z1 z2 z3 z4 z5 z6, fun j z1 z2 => by rw [g7 j z2]; exact h5.2.2.2 j z1 z2⟩, hD.trans h5'⟩, fun j hj => ?_, ?_⟩, ?_, g4 _ (by omega) (by omega)⟩
    · obtain ⟨y1, y2, y3⟩ := h6 j hj
      exact ⟨y1.cg (by rw [g4 _ (by omega) (by omega)]) (g4 _ (by omega) (by omega)) (g4 _ (by omega) (by omega)), y2.cg (by rw [g6 49 (by omega) (by omega) (by omega) (by omega)]) (fun x _ => by rw [g6 50 (by omega) (by omega) (by omega) (by omega)]), y3⟩
    · rw [g7 38 (by omega), if_neg h38]; exact g3
    · rw [AT, g6 51 (by omega) (by omega) (by omega) (by omega)]; exact hA
/-- the wait goes on to the next choice -/
theorem wait_ok {k : Nat} (hfu : 5000 ≤ fu) (h0 : 89 < a0) (h : ER M m a0 nS nL nC nO lim F V mm M0) (hS0 : 0 < nS) (ha : a < nnF F nS 0) (hb : b < nnF F nS 1) (hc : c < nnF F nS 2) (hA : AT m nS a b c) : ∃ n, ER M n a0 nS nL nC nO lim F V mm M0 ∧ ((c + 1 < nnF F nS 2 ∧ waitM fu k170 k m = f_X11_makes_L126 fu k170 k 1 n ∧ AT n nS a b (c + 1)) ∨ (c + 1 = nnF F nS 2 ∧ b + 1 < nnF F nS 1 ∧ waitM fu k170 k m = f_X11_makes_L126 fu k170 k 1 n ∧ AT n nS a (b + 1) 0) ∨ (c + 1 = nnF F nS 2 ∧ b + 1 = nnF F nS 1 ∧ a + 1 < nnF F nS 0 ∧ waitM fu k170 k m = f_X11_makes_L126 fu k170 k 1 n ∧ AT n nS (a + 1) 0 0) ∨ (c + 1 = nnF F nS 2 ∧ b + 1 = nnF F nS 1 ∧ a + 1 = nnF F nS 0 ∧ waitM fu k170 k m = f_X11_makes_L126 fu k170 k 0 n)) := by
  obtain ⟨r, n, g1, g2, g3⟩ := goesOn_ok (fu := fu) hfu h hS0 hA ha hb hc
  have hW : waitM fu k170 k m = f_X11_makes_L126 fu k170 k r n := by simp only [waitM, g1, bm_some]
  refine ⟨n, h.cg h0 (fun _ _ => rfl) g2, ?_⟩
  rcases g3 with ⟨x1, rfl, x2⟩ | ⟨x1, x2, rfl, x3⟩ | ⟨x1, x2, x3, rfl, x4⟩ | ⟨x1, x2, x3, rfl⟩
  · exact Or.inl ⟨x1, hW, x2⟩
  · exact Or.inr (Or.inl ⟨x1, x2, hW, x3⟩)
  · exact Or.inr (Or.inr (Or.inl ⟨x1, x2, x3, hW, x4⟩))
  · exact Or.inr (Or.inr (Or.inr ⟨x1, x2, x3, hW⟩))
theorem links2 (hfu : 5000 ≤ fu) (h : ER M m a0 nS nL nC nO lim F V mm M0) (hj : j < 3) (hj0 : 0 < j) (hP : ∀ i, i < nS → i ≤ j → PC M a0 F i (R i)) : f_X0_linksHold fu a0 (nI j) M = some (bI (al (lkS mm R j) nL)) := by
  have hD := h.2.2.1.2.2.2
  by_cases hjs : j < nS
  · rw [links_eq hfu h.1 h.2.1 hjs (fun i hi => hP i (by omega) hi), lkS_ds hD]
  · rw [linksN_eq hfu h.1 h.2.1 (by omega) hj]
    have : al (lkS m R j) nL = true := by
      refine al_of (fun l hl => ?_)
      obtain ⟨a, b, c, d, q1, q2, q3, q4, q5, q6, q7, q8, q9⟩ := lk_get h.2.1 hl
      have hS3 := h.2.1.1.2
      have : ¬ nI b = nI j := by rw [nI_eq (by omega) (by omega)]; omega
      simp [lkS, q2, this]
    rw [lkS_ds hD] at this
    rw [this]
    rfl
theorem lkmm (h : ER M m a0 nS nL nC nO lim F V mm M0) : al (lk1 mm (chR F a b c)) nL = (al (lkS mm (chR F a b 0) 1) nL && al (lkS mm (chR F a b c) 2) nL) := by
  have hD := h.2.2.1.2.2.2
  have e1 := lk_split (R := chR F a b c) h.2.1
  have e2 := lkS_cg (R := chR F a b c) (R' := chR F a b 0) (j := 1) (by omega) h.2.1 (fun i hi => by
    have : i = 0 ∨ i = 1 := by omega
    rcases this with rfl | rfl <;> rfl)
  rw [lk1_ds hD, lkS_ds hD] at e1
  rw [lkS_ds hD] at e2
  rw [e1, e2]
theorem innerL {k116 : Mem → Option Mem} (hfu : 5000 ≤ fu) (h0 : 89 < a0) (hS0 : 0 < nS) (hO : 0 < nO) (hV : V.length ≤ 12) (hVm : ∀ R : Nat → Row, (∀ j, j < nS → R j ∈ F j) → ov mm R 0 ∈ V) (ha : a < nnF F nS 0) (hb : b < nnF F nS 1) (h1 : al (lkS mm (chR F a b 0) 1) nL = true)
    (hk : ∀ N n fl, ER N n a0 nS nL nC nO lim F V mm M0 → N (a0 + 2) 0 = nI a → N (a0 + 2) 1 = nI b → AT n nS a b (nnF F nS 2 - 1) → meas F nS a b (nnF F nS 2 - 1) < fl → Q (k116 N) (waitM fu k170 fl n)) : ∀ d c nk fl (M m : Mem), c + d + 1 = nnF F nS 2 → d + 1 < nk → meas F nS a b c + 1 < fl → ER M m a0 nS nL nC nO lim F V mm M0 → M (a0 + 2) 0 = nI a → M (a0 + 2) 1 = nI b → AT m nS a b c → Q (f_X0_make_L77 fu a0 k116 nk (nI c) M) (f_X11_makes_L126 fu k170 fl 1 m) := by
  intro d
  induction d with
  | zero =>
    intro c nk fl M m e1 e2 e3 hE p0 p1 hA
    obtain ⟨nk, rfl⟩ := fu1 e2
    obtain ⟨nk, rfl⟩ := fu1 (show 0 < nk by omega)
    obtain ⟨fl, rfl⟩ := fu1 e3
    have n2 := nn_le hE (j := 2) (by omega)
    have hc : c < nnF F nS 2 := by omega
    have hcn : c = nnF F nS 2 - 1 := by omega
    have hE' : ER (up M (a0 + 2) 2 (nI c)) m a0 nS nL nC nO lim F V mm M0 := hE.cg h0 (fun x hx => up_n hx) (fun _ _ => rfl)
    have p0' : up M (a0 + 2) 2 (nI c) (a0 + 2) 0 = nI a := by rw [up_m (by omega)]; exact p0
    have p1' : up M (a0 + 2) 2 (nI c) (a0 + 2) 1 = nI b := by rw [up_m (by omega)]; exact p1
    have el := links2 (fu := fu) (j := 2) (R := chR F a b c) hfu hE' (by omega) (by omega) (fun i hi hi2 => pcs hE' ha hb hc hi (by
      have : i = 0 ∨ i = 1 ∨ i = 2 := by omega
      rcases this with rfl | rfl | rfl
      · exact p0'
      · exact p1'
      · exact up_s))
    have hmm := lkmm (a := a) (b := b) (c := c) hE
    rw [h1, Bool.true_and] at hmm
    have stop : ∀ (N : Mem), ER N m a0 nS nL nC nO lim F V mm M0 ∨ (∃ n, ER N n a0 nS nL nC nO lim F V mm M0) → f_X0_make_L77 fu a0 k116 (nk + 1) (nI (c + 1)) N = k116 N := by
      intro N hN
      obtain ⟨n, hN⟩ : ∃ n, ER N n a0 nS nL nC nO lim F V mm M0 := by rcases hN with h | h; exact ⟨m, h⟩; exact h
      have ec := choices_eq (fu := fu) (j := 2) hN (by omega)
      have hle : nnF F nS 2 ≤ c + 1 := by omega
      simp (disch := omega) only [f_X0_make_L77, lit, ec, bd_some, nI_leI, hle, ↓reduceIte]
    have ec := choices_eq (fu := fu) (j := 2) hE (by omega)
    have hnle : ¬ nnF F nS 2 ≤ c := by omega
    have eC : f_X0_make_L77 fu a0 k116 (nk + 1 + 1) (nI c) M = if al (lkS mm (chR F a b c) 2) nL = false then f_X0_make_L77 fu a0 k116 (nk + 1) (nI (c + 1)) (up M (a0 + 2) 2 (nI c)) else bd (f_X0_takeMatch fu a0 (up M (a0 + 2) 2 (nI c))) (fun M_40 => f_X0_make_L77 fu a0 k116 (nk + 1) (nI (c + 1)) M_40) := by
      rw [f_X0_make_L77]
      simp (disch := omega) only [lit, ec, bd_some, nI_leI, hnle, ↓reduceIte, nm_d, el, bI_0, nI_add]
    rw [eC]
    cases hl : al (lkS mm (chR F a b c) 2) nL with
    | false =>
      rw [hl] at hmm
      rw [if_pos rfl, stop _ (Or.inl hE'), skip1 hfu hE ha hb hc hA hmm]
      rw [hcn] at hA e3
      exact hk _ _ _ hE' p0' p1' hA (by omega)
    | true =>
      rw [hl] at hmm
      obtain ⟨N, n, g1, g2, g3, g4, g5⟩ := tuple (fu := fu) (k170 := k170) (k := fl) hfu h0 hO hV hVm hE' ha hb hc hA p0' p1' up_s hmm
      rw [if_neg (by decide), g1, bd_some, stop _ (Or.inr ⟨n, g3⟩), g2]
      rw [hcn] at g4 e3
      exact hk _ _ _ g3 (by rw [g5]; exact p0') (by rw [g5]; exact p1') g4 (by omega)
  | succ d ih =>
    intro c nk fl M m e1 e2 e3 hE p0 p1 hA
    obtain ⟨nk, rfl⟩ := fu1 e2
    obtain ⟨fl, rfl⟩ := fu1 e3
    have n2 := nn_le hE (j := 2) (by omega)
    have hc : c < nnF F nS 2 := by omega
    have hE' : ER (up M (a0 + 2) 2 (nI c)) m a0 nS nL nC nO lim F V mm M0 := hE.cg h0 (fun x hx => up_n hx) (fun _ _ => rfl)
    have p0' : up M (a0 + 2) 2 (nI c) (a0 + 2) 0 = nI a := by rw [up_m (by omega)]; exact p0
    have p1' : up M (a0 + 2) 2 (nI c) (a0 + 2) 1 = nI b := by rw [up_m (by omega)]; exact p1
    have el := links2 (fu := fu) (j := 2) (R := chR F a b c) hfu hE' (by omega) (by omega) (fun i hi hi2 => pcs hE' ha hb hc hi (by
      have : i = 0 ∨ i = 1 ∨ i = 2 := by omega
      rcases this with rfl | rfl | rfl
      · exact p0'
      · exact p1'
      · exact up_s))
    have hmm := lkmm (a := a) (b := b) (c := c) hE
    rw [h1, Bool.true_and] at hmm
    have ec := choices_eq (fu := fu) (j := 2) hE (by omega)
    have hnle : ¬ nnF F nS 2 ≤ c := by omega
    have hms : meas F nS a b (c + 1) + 1 = meas F nS a b c := by simp only [meas]; omega
    have eC : f_X0_make_L77 fu a0 k116 (nk + 1) (nI c) M = if al (lkS mm (chR F a b c) 2) nL = false then f_X0_make_L77 fu a0 k116 nk (nI (c + 1)) (up M (a0 + 2) 2 (nI c)) else bd (f_X0_takeMatch fu a0 (up M (a0 + 2) 2 (nI c))) (fun M_40 => f_X0_make_L77 fu a0 k116 nk (nI (c + 1)) M_40) := by
      rw [f_X0_make_L77]
      simp (disch := omega) only [lit, ec, bd_some, nI_leI, hnle, ↓reduceIte, nm_d, el, bI_0, nI_add]
    rw [eC]
    cases hl : al (lkS mm (chR F a b c) 2) nL with
    | false =>
      rw [hl] at hmm
      rw [if_pos rfl, skip1 hfu hE ha hb hc hA hmm]
      obtain ⟨n', y1, y2⟩ := wait_ok (fu := fu) (k170 := k170) (k := fl) hfu h0 hE' hS0 ha hb hc hA
      rcases y2 with ⟨x1, x2, x3⟩ | ⟨x1, _⟩ | ⟨x1, _⟩ | ⟨x1, _⟩
      · rw [x2]
        exact ih (c + 1) nk fl _ n' (by omega) (by omega) (by omega) y1 p0' p1' x3
      · omega
      · omega
      · omega
    | true =>
      rw [hl] at hmm
      obtain ⟨N, n, g1, g2, g3, g4, g5⟩ := tuple (fu := fu) (k170 := k170) (k := fl) hfu h0 hO hV hVm hE' ha hb hc hA p0' p1' up_s hmm
      rw [if_neg (by decide), g1, bd_some, g2]
      obtain ⟨n', y1, y2⟩ := wait_ok (fu := fu) (k170 := k170) (k := fl) hfu h0 g3 hS0 ha hb hc g4
      rcases y2 with ⟨x1, x2, x3⟩ | ⟨x1, _⟩ | ⟨x1, _⟩ | ⟨x1, _⟩
      · rw [x2]
        exact ih (c + 1) nk fl _ n' (by omega) (by omega) (by omega) y1 (by rw [g5]; exact p0') (by rw [g5]; exact p1') x3
      · omega
      · omega
      · omega
/-- where the links of the seat 1 don't hold, all choices of the seat 2 are passed -/
theorem skipL {X : Option Mem} (hfu : 5000 ≤ fu) (h0 : 89 < a0) (hS0 : 0 < nS) (ha : a < nnF F nS 0) (hb : b < nnF F nS 1) (h1 : al (lkS mm (chR F a b 0) 1) nL = false)
    (hk : ∀ n fl, ER M n a0 nS nL nC nO lim F V mm M0 → AT n nS a b (nnF F nS 2 - 1) → meas F nS a b (nnF F nS 2 - 1) < fl → Q X (waitM fu k170 fl n)) : ∀ d c fl (m : Mem), c + d + 1 = nnF F nS 2 → meas F nS a b c + 1 < fl → ER M m a0 nS nL nC nO lim F V mm M0 → AT m nS a b c → Q X (f_X11_makes_L126 fu k170 fl 1 m) := by
  intro d
  induction d with
  | zero =>
    intro c fl m e1 e3 hE hA
    obtain ⟨fl, rfl⟩ := fu1 e3
    have hc : c < nnF F nS 2 := by omega
    have hcn : c = nnF F nS 2 - 1 := by omega
    have hmm := lkmm (a := a) (b := b) (c := c) hE
    rw [h1, Bool.false_and] at hmm
    rw [skip1 hfu hE ha hb hc hA hmm]
    rw [hcn] at hA e3
    exact hk _ _ hE hA (by omega)
  | succ d ih =>
    intro c fl m e1 e3 hE hA
    obtain ⟨fl, rfl⟩ := fu1 e3
    have hc : c < nnF F nS 2 := by omega
    have hmm := lkmm (a := a) (b := b) (c := c) hE
    rw [h1, Bool.false_and] at hmm
    have hms : meas F nS a b (c + 1) + 1 = meas F nS a b c := by simp only [meas]; omega
    rw [skip1 hfu hE ha hb hc hA hmm]
    obtain ⟨n', y1, y2⟩ := wait_ok (fu := fu) (k170 := k170) (k := fl) hfu h0 hE hS0 ha hb hc hA
    rcases y2 with ⟨x1, x2, x3⟩ | ⟨x1, _⟩ | ⟨x1, _⟩ | ⟨x1, _⟩
    · rw [x2]
      exact ih (c + 1) fl n' (by omega) (by omega) y1 x3
    · omega
    · omega
    · omega
theorem midL {k122 : Mem → Option Mem} (hfu : 5000 ≤ fu) (h0 : 89 < a0) (hS0 : 0 < nS) (hO : 0 < nO) (hV : V.length ≤ 12) (hVm : ∀ R : Nat → Row, (∀ j, j < nS → R j ∈ F j) → ov mm R 0 ∈ V) (ha : a < nnF F nS 0) (h2 : 0 < nnF F nS 2) (n2 : nnF F nS 2 ≤ 12)
    (hk : ∀ N n fl, ER N n a0 nS nL nC nO lim F V mm M0 → N (a0 + 2) 0 = nI a → AT n nS a (nnF F nS 1 - 1) (nnF F nS 2 - 1) → meas F nS a (nnF F nS 1 - 1) (nnF F nS 2 - 1) < fl → Q (k122 N) (waitM fu k170 fl n)) : ∀ d b nk fl (M m : Mem), b + d + 1 = nnF F nS 1 → d + 1 < nk → meas F nS a b 0 + 1 < fl → ER M m a0 nS nL nC nO lim F V mm M0 → M (a0 + 2) 0 = nI a → AT m nS a b 0 → Q (f_X0_make_L45 fu a0 k122 nk (nI b) M) (f_X11_makes_L126 fu k170 fl 1 m) := by
  intro d
  induction d with
  | zero =>
    intro b nk fl M m e1 e2 e3 hE p0 hA
    obtain ⟨nk, rfl⟩ := fu1 e2
    obtain ⟨nk, rfl⟩ := fu1 (show 0 < nk by omega)
    have n1 := nn_le hE (j := 1) (by omega)
    have hb : b < nnF F nS 1 := by omega
    have hbn : b = nnF F nS 1 - 1 := by omega
    have hE' : ER (up M (a0 + 2) 1 (nI b)) m a0 nS nL nC nO lim F V mm M0 := hE.cg h0 (fun x hx => up_n hx) (fun _ _ => rfl)
    have p0' : up M (a0 + 2) 1 (nI b) (a0 + 2) 0 = nI a := by rw [up_m (by omega)]; exact p0
    have el := links2 (fu := fu) (j := 1) (R := chR F a b 0) hfu hE' (by omega) (by omega) (fun i hi hi2 => pcs hE' ha hb h2 hi (by
      have : i = 0 ∨ i = 1 := by omega
      rcases this with rfl | rfl
      · exact p0'
      · exact up_s))
    have stop : ∀ (N n : Mem), ER N n a0 nS nL nC nO lim F V mm M0 → f_X0_make_L45 fu a0 k122 (nk + 1) (nI (b + 1)) N = k122 N := by
      intro N n hN
      have ec := choices_eq (fu := fu) (j := 1) hN (by omega)
      have hle : nnF F nS 1 ≤ b + 1 := by omega
      simp (disch := omega) only [f_X0_make_L45, lit, ec, bd_some, nI_leI, hle, ↓reduceIte]
    have ec := choices_eq (fu := fu) (j := 1) hE (by omega)
    have hnle : ¬ nnF F nS 1 ≤ b := by omega
    have eC : f_X0_make_L45 fu a0 k122 (nk + 1 + 1) (nI b) M = if al (lkS mm (chR F a b 0) 1) nL = false then f_X0_make_L45 fu a0 k122 (nk + 1) (nI (b + 1)) (up M (a0 + 2) 1 (nI b)) else f_X0_make_L77 fu a0 (fun M_27 => f_X0_make_L45 fu a0 k122 (nk + 1) (nI (b + 1)) M_27) fu (nI 0) (up M (a0 + 2) 1 (nI b)) := by
      rw [f_X0_make_L45]
      simp (disch := omega) only [lit, ec, bd_some, nI_leI, hnle, ↓reduceIte, nm_d, jn_d, el, bI_0, nI_add]
    rw [eC]
    cases hl : al (lkS mm (chR F a b 0) 1) nL with
    | false =>
      rw [if_pos rfl, stop _ _ hE']
      refine skipL (M := up M (a0 + 2) 1 (nI b)) hfu h0 hS0 ha hb hl (fun n fl' hN hA' hm' => ?_) (nnF F nS 2 - 1) 0 fl m (by omega) e3 hE' hA
      rw [hbn] at hA' hm'
      rw [hbn]
      rw [hbn] at hN p0'
      exact hk _ _ _ hN p0' hA' hm'
    | true =>
      rw [if_neg (by decide)]
      refine innerL hfu h0 hS0 hO hV hVm ha hb hl (fun N n fl' hN q0 q1 hA' hm' => ?_) (nnF F nS 2 - 1) 0 fu fl (up M (a0 + 2) 1 (nI b)) m (by omega) (by omega) e3 hE' p0' up_s hA
      rw [stop _ _ hN]
      rw [hbn] at hA' hm'
      exact hk _ _ _ hN q0 hA' hm'
  | succ d ih =>
    intro b nk fl M m e1 e2 e3 hE p0 hA
    obtain ⟨nk, rfl⟩ := fu1 e2
    have n1 := nn_le hE (j := 1) (by omega)
    have hb : b < nnF F nS 1 := by omega
    have hE' : ER (up M (a0 + 2) 1 (nI b)) m a0 nS nL nC nO lim F V mm M0 := hE.cg h0 (fun x hx => up_n hx) (fun _ _ => rfl)
    have p0' : up M (a0 + 2) 1 (nI b) (a0 + 2) 0 = nI a := by rw [up_m (by omega)]; exact p0
    have el := links2 (fu := fu) (j := 1) (R := chR F a b 0) hfu hE' (by omega) (by omega) (fun i hi hi2 => pcs hE' ha hb h2 hi (by
      have : i = 0 ∨ i = 1 := by omega
      rcases this with rfl | rfl
      · exact p0'
      · exact up_s))
    have ec := choices_eq (fu := fu) (j := 1) hE (by omega)
    have hnle : ¬ nnF F nS 1 ≤ b := by omega
    have hms : meas F nS a (b + 1) 0 + 1 ≤ meas F nS a b (nnF F nS 2 - 1) := by simp only [meas]; omega
    have eC : f_X0_make_L45 fu a0 k122 (nk + 1) (nI b) M = if al (lkS mm (chR F a b 0) 1) nL = false then f_X0_make_L45 fu a0 k122 nk (nI (b + 1)) (up M (a0 + 2) 1 (nI b)) else f_X0_make_L77 fu a0 (fun M_27 => f_X0_make_L45 fu a0 k122 nk (nI (b + 1)) M_27) fu (nI 0) (up M (a0 + 2) 1 (nI b)) := by
      rw [f_X0_make_L45]
      simp (disch := omega) only [lit, ec, bd_some, nI_leI, hnle, ↓reduceIte, nm_d, jn_d, el, bI_0, nI_add]
    rw [eC]
    have next : ∀ (N n : Mem) fl', ER N n a0 nS nL nC nO lim F V mm M0 → N (a0 + 2) 0 = nI a → AT n nS a b (nnF F nS 2 - 1) → meas F nS a b (nnF F nS 2 - 1) < fl' → Q (f_X0_make_L45 fu a0 k122 nk (nI (b + 1)) N) (waitM fu k170 fl' n) := by
      intro N n fl' hN q0 hA' hm'
      obtain ⟨n', y1, y2⟩ := wait_ok (fu := fu) (k170 := k170) (k := fl') hfu h0 hN hS0 ha hb (show nnF F nS 2 - 1 < nnF F nS 2 by omega) hA'
      rcases y2 with ⟨x1, _⟩ | ⟨x1, x2, x3, x4⟩ | ⟨_, x1, _⟩ | ⟨_, x1, _⟩
      · omega
      · rw [x3]
        exact ih (b + 1) nk fl' N n' (by omega) (by omega) (by omega) y1 q0 x4
      · omega
      · omega
    cases hl : al (lkS mm (chR F a b 0) 1) nL with
    | false =>
      rw [if_pos rfl]
      exact skipL (M := up M (a0 + 2) 1 (nI b)) hfu h0 hS0 ha hb hl (fun n fl' hN hA' hm' => next _ n fl' hN p0' hA' hm') (nnF F nS 2 - 1) 0 fl m (by omega) e3 hE' hA
    | true =>
      rw [if_neg (by decide)]
      exact innerL hfu h0 hS0 hO hV hVm ha hb hl (fun N n fl' hN q0 q1 hA' hm' => next N n fl' hN q0 hA' hm') (nnF F nS 2 - 1) 0 fu fl (up M (a0 + 2) 1 (nI b)) m (by omega) (by omega) e3 hE' p0' up_s hA
theorem outL {k128 : Mem → Option Mem} (hfu : 5000 ≤ fu) (h0 : 89 < a0) (hS0 : 0 < nS) (hO : 0 < nO) (hV : V.length ≤ 12) (hVm : ∀ R : Nat → Row, (∀ j, j < nS → R j ∈ F j) → ov mm R 0 ∈ V) (h1 : 0 < nnF F nS 1) (n1 : nnF F nS 1 ≤ 12) (h2 : 0 < nnF F nS 2) (n2 : nnF F nS 2 ≤ 12)
    (hk : ∀ N n, ER N n a0 nS nL nC nO lim F V mm M0 → Q (k128 N) (k170 n)) : ∀ d a nk fl (M m : Mem), a + d + 1 = nnF F nS 0 → d + 1 < nk → meas F nS a 0 0 + 1 < fl → ER M m a0 nS nL nC nO lim F V mm M0 → AT m nS a 0 0 → Q (f_X0_make_L26 fu a0 k128 nk (nI a) M) (f_X11_makes_L126 fu k170 fl 1 m) := by
  intro d
  induction d with
  | zero =>
    intro a nk fl M m e1 e2 e3 hE hA
    obtain ⟨nk, rfl⟩ := fu1 e2
    obtain ⟨nk, rfl⟩ := fu1 (show 0 < nk by omega)
    have n0 := nn_le hE (j := 0) (by omega)
    have ha : a < nnF F nS 0 := by omega
    have hE' : ER (up M (a0 + 2) 0 (nI a)) m a0 nS nL nC nO lim F V mm M0 := hE.cg h0 (fun x hx => up_n hx) (fun _ _ => rfl)
    have ec := choices_eq (fu := fu) (j := 0) hE (by omega)
    have hnle : ¬ nnF F nS 0 ≤ a := by omega
    have eC : f_X0_make_L26 fu a0 k128 (nk + 1 + 1) (nI a) M = f_X0_make_L45 fu a0 (fun M_15 => f_X0_make_L26 fu a0 k128 (nk + 1) (nI (a + 1)) M_15) fu (nI 0) (up M (a0 + 2) 0 (nI a)) := by
      rw [f_X0_make_L26]
      simp (disch := omega) only [lit, ec, bd_some, nI_leI, hnle, ↓reduceIte, nm_d, jn_d, nI_add]
    rw [eC]
    refine midL hfu h0 hS0 hO hV hVm ha h2 n2 (fun N n fl' hN q0 hA' hm' => ?_) (nnF F nS 1 - 1) 0 fu fl (up M (a0 + 2) 0 (nI a)) m (by omega) (by omega) e3 hE' up_s hA
    have ec' := choices_eq (fu := fu) (j := 0) hN (by omega)
    have hle : nnF F nS 0 ≤ a + 1 := by omega
    have eS : f_X0_make_L26 fu a0 k128 (nk + 1) (nI (a + 1)) N = k128 N := by
      simp (disch := omega) only [f_X0_make_L26, lit, ec', bd_some, nI_leI, hle, ↓reduceIte]
    rw [eS]
    obtain ⟨n', y1, y2⟩ := wait_ok (fu := fu) (k170 := k170) (k := fl') hfu h0 hN hS0 ha (show nnF F nS 1 - 1 < nnF F nS 1 by omega) (show nnF F nS 2 - 1 < nnF F nS 2 by omega) hA'
    rcases y2 with ⟨x1, _⟩ | ⟨x1, x2, _⟩ | ⟨_, _, x1, _⟩ | ⟨_, _, _, x3⟩
    · omega
    · omega
    · omega
    · obtain ⟨fl', rfl⟩ := fu1 hm'
      have e0 : f_X11_makes_L126 fu k170 (fl' + 1) 0 n' = k170 n' := by simp only [f_X11_makes_L126, ↓reduceIte]
      rw [x3, e0]
      exact hk _ _ y1
  | succ d ih =>
    intro a nk fl M m e1 e2 e3 hE hA
    obtain ⟨nk, rfl⟩ := fu1 e2
    have n0 := nn_le hE (j := 0) (by omega)
    have ha : a < nnF F nS 0 := by omega
    have hE' : ER (up M (a0 + 2) 0 (nI a)) m a0 nS nL nC nO lim F V mm M0 := hE.cg h0 (fun x hx => up_n hx) (fun _ _ => rfl)
    have ec := choices_eq (fu := fu) (j := 0) hE (by omega)
    have hnle : ¬ nnF F nS 0 ≤ a := by omega
    have hms : meas F nS (a + 1) 0 0 + 1 ≤ meas F nS a (nnF F nS 1 - 1) (nnF F nS 2 - 1) := by simp only [meas]; omega
    have eC : f_X0_make_L26 fu a0 k128 (nk + 1) (nI a) M = f_X0_make_L45 fu a0 (fun M_15 => f_X0_make_L26 fu a0 k128 nk (nI (a + 1)) M_15) fu (nI 0) (up M (a0 + 2) 0 (nI a)) := by
      rw [f_X0_make_L26]
      simp (disch := omega) only [lit, ec, bd_some, nI_leI, hnle, ↓reduceIte, nm_d, jn_d, nI_add]
    rw [eC]
    refine midL hfu h0 hS0 hO hV hVm ha h2 n2 (fun N n fl' hN q0 hA' hm' => ?_) (nnF F nS 1 - 1) 0 fu fl (up M (a0 + 2) 0 (nI a)) m (by omega) (by omega) e3 hE' up_s hA
    obtain ⟨n', y1, y2⟩ := wait_ok (fu := fu) (k170 := k170) (k := fl') hfu h0 hN hS0 ha (show nnF F nS 1 - 1 < nnF F nS 1 by omega) (show nnF F nS 2 - 1 < nnF F nS 2 by omega) hA'
    rcases y2 with ⟨x1, _⟩ | ⟨x1, x2, _⟩ | ⟨_, _, x1, x2, x3⟩ | ⟨_, _, x1, x3⟩
    · omega
    · omega
    · rw [x2]
      exact ih (a + 1) nk fl' N n' (by omega) (by omega) (by omega) y1 x3
    · omega
end Run
