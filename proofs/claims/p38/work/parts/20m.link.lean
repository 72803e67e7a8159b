/-! ===== links, guesses, the next seat ===== -/
def TKL (M m : Mem) (tk : Nat → Bool) (p : Nat) : Prop := (∀ j, j < 3 → ((M 151 (4 * j) < 0) = (tk j = false))) ∧ (∀ j, j < 3 → m 42 j = bI (tk j)) ∧ m 0 83 = nI p ∧ cn3 tk = p
def fTK (tk : Nat → Bool) (p : Nat) : Mem := fun a j => if a = 90 then nI p else nI ((([0, 1, 2].filter tk)[j]?).getD 7)
section LinkL
variable {fu t u s i j e w g fr nS nL nC nO p l : Nat} {M m N n : Mem} {R A : List Row} {RR : Nat → List Row} {tk : Nat → Bool} {z : Nat → Nat}
theorem TKL.fake (h : TKL M m tk p) : TK (fTK tk p) m tk p := by
  obtain ⟨h1, h2, h3, h4⟩ := h
  have hp : p ≤ 3 := by rw [← h4]; simp only [cn3]; split <;> split <;> split <;> omega
  refine ⟨⟨rfl, h3, hp⟩, h2, fun j hj => ?_⟩
  subst h4
  have e : (fun x => decide (fTK tk (cn3 tk) 93 x = nI j)) = fun x => decide (nI ((([0, 1, 2].filter tk)[x]?).getD 7) = nI j) := rfl
  rw [e]
  have hj3 : j = 0 ∨ j = 1 ∨ j = 2 := by omega
  cases h0 : tk 0 <;> cases h1 : tk 1 <;> cases h2 : tk 2 <;> rcases hj3 with rfl | rfl | rfl <;> simp [cn3, h0, h1, h2, an] <;> decide
theorem TKL.cg (h : TKL M m tk p) (h1 : ∀ j, j < 3 → N 151 (4 * j) = M 151 (4 * j)) (h2 : n 42 = m 42) (h3 : n 0 83 = m 0 83) : TKL N n tk p := ⟨fun j hj => by rw [h1 j hj]; exact h.1 j hj, fun j hj => by rw [h2]; exact h.2.1 j hj, by rw [h3]; exact h.2.2⟩
theorem mlink_eq (hfu : 5000 ≤ fu) (hG : DG m nS nL nC nO) (hT : TKL M m tk p) (hi : i < 3) : f_X11_linkOf fu (nI i) m = some (oI (fro (lkd m tk i) 0 nL)) := linkOf_eq hfu hG hT.fake hi
theorem llinkL (hD : DL M m nS nL nC nO) (hG : DG m nS nL nC nO) (hT : TKL M m tk p) (hi : i < 3) : ∀ d l n, l + d = nL → d < n → f_L_linkOf_L2 fu (nI i) M n (nI l) = some (oI (fro (lkd m tk i) l d)) := by
  have hL3 := hG.2.1.2
  have hS3 := hG.1.2
  intro d
  induction d with
  | zero =>
    intro l n h1 h2
    obtain ⟨n, rfl⟩ := fu1 h2
    obtain rfl : l = nL := by omega
    simp (disch := omega) only [f_L_linkOf_L2, hD.1.2.1, nI_leI, Nat.le_refl, if_true, fro, oI]
    rfl
  | succ d ih =>
    intro l n h1 h2
    obtain ⟨n, rfl⟩ := fu1 h2
    have h6 : ¬ nL ≤ l := by omega
    obtain ⟨y1, y2, y3, y4⟩ := hD.2.2.1 l (by omega)
    obtain ⟨a, b, c, dd, q1, q2, q3, q4, q5, q6, q7, q8⟩ := hG.2.2.2.2.2.2.2.1 l (by omega)
    have hA : (nI a = nI i) = (a = i) := propext (nI_eq (by omega) (by omega))
    have hB : (nI b = nI i) = (b = i) := propext (nI_eq (by omega) (by omega))
    have hlk : lkd m tk i l = ((decide (a = i) && tk b) || (decide (b = i) && tk a)) := by
      simp only [lkd, q1, q2]
      rw [nI_clamp (by omega), nI_clamp (by omega)]
      simp only [hA, hB]
    have e9 : (9 : Int32) + 4 * nI l = nI (9 + 4 * l) := by rw [show (4 : Int32) = nI 4 from rfl, show (9 : Int32) = nI 9 from rfl, pk_mul, nI_add]
    have e11 : (11 : Int32) + 4 * nI l = nI (11 + 4 * l) := by rw [show (4 : Int32) = nI 4 from rfl, show (11 : Int32) = nI 11 from rfl, pk_mul, nI_add]
    have e4a : (4 : Int32) * nI a = nI (4 * a) := pk_mul 4 a
    have e4b : (4 : Int32) * nI b = nI (4 * b) := pk_mul 4 b
    have ta := hT.1 a (by omega)
    have tb := hT.1 b (by omega)
    have tb' : ((0 : Int32) ≤ M 151 (4 * b)) = (tk b = true) := by
      rw [← Int32.not_lt, tb]; simp
    simp (disch := omega) only [f_L_linkOf_L2, hD.1.2.1, nI_leI, h6, if_false, e9, e11, inb_nI, grd_true, nI_clamp, nm_d, jn_d, nI_1, y1, y3, q1, q2, hA, hB, e4a, e4b, ta, tb']
    have hfro : fro (lkd m tk i) l (d + 1) = if lkd m tk i l = true then some l else fro (lkd m tk i) (l + 1) d := rfl
    have ih' := ih (l + 1) n (by omega) (by omega)
    rw [hfro, hlk]
    by_cases ha : a = i
    · have hbi : ¬ b = i := by omega
      simp only [ha, hbi, if_true, if_false, decide_true, decide_false, Bool.true_and, Bool.false_and, Bool.or_false]
      cases ht : tk b with
      | false => rw [if_neg (by decide), if_neg (by decide)]; exact ih'
      | true => rw [if_pos rfl, if_pos rfl]; rfl
    · simp only [ha, if_false, decide_false, Bool.false_and, Bool.false_or]
      by_cases hbi : b = i
      · simp only [hbi, if_true, decide_true, Bool.true_and]
        cases ht : tk a with
        | false => rw [if_pos rfl, if_neg (by decide)]; exact ih'
        | true => rw [if_neg (by decide), if_pos rfl]; rfl
      · simp only [hbi, if_false, decide_false, Bool.false_and]
        rw [if_neg (by decide)]
        exact ih'
theorem llink_eq (hfu : 5000 ≤ fu) (hD : DL M m nS nL nC nO) (hG : DG m nS nL nC nO) (hT : TKL M m tk p) (hi : i < 3) : f_L_linkOf fu (nI i) M = some (oI (fro (lkd m tk i) 0 nL)) := llinkL hD hG hT hi nL 0 fu (by omega) (by have := hG.2.1.2; omega)
/-! guesses -/
theorem lgssL {k44 : Int32 → Option Int32} (hfu : 5000 ≤ fu) (hi : i < nS) (hD : DL M m nS nL nC nO) (hG : DG m nS nL nC nO) {z : Nat} (hz : z < 2 ^ 20) : ∀ d w n, w + d = nC → d < n → f_L_guess_L12 fu (nI i) M k44 n (nI (z / 2 ^ ct (snt m i) w)) (nI w) = k44 (nI (z / 2 ^ ct (snt m i) nC)) := by
  have hC := hG.2.2.1.2
  intro d
  induction d with
  | zero =>
    intro w n h1 h2
    obtain ⟨n, rfl⟩ := fu1 h2
    obtain rfl : w = nC := by omega
    simp (disch := omega) only [f_L_guess_L12, hD.1.2.2.1, nI_leI, Nat.le_refl, if_true]
  | succ d ih =>
    intro w n h1 h2
    obtain ⟨n, rfl⟩ := fu1 h2
    have h6 : ¬ nC ≤ w := by omega
    have hse := lsent_eq hfu hD hG hi (show w < nC by omega)
    have hle : z / 2 ^ ct (snt m i) w ≤ z := Nat.div_le_self _ _
    have e1 : nI (z / 2 ^ ct (snt m i) w) >>> (1 &&& 31) = nI (z / 2 ^ ct (snt m i) w / 2) := by
      rw [show ((1 : Int32) &&& 31) = 1 by decide, pk_shrN (by omega) 1 1 (by decide)]
    simp (disch := omega) only [f_L_guess_L12, hD.1.2.2.1, nI_leI, h6, if_false, hse, bd_some, bI_nz, nm_d, nI_1, e1]
    have ih' := ih (w + 1) n (by omega) (by omega)
    have hct : ct (snt m i) (w + 1) = ct (snt m i) w + if snt m i w = true then 1 else 0 := rfl
    rw [hct] at ih'
    cases hs : snt m i w with
    | false =>
      rw [if_pos rfl]
      rw [hs, if_neg (by decide), Nat.add_zero] at ih'
      exact ih'
    | true =>
      rw [if_neg (by decide)]
      rw [hs, if_pos rfl, Nat.pow_succ, ← Nat.div_div_eq_div_mul] at ih'
      exact ih'
theorem lguess_eq (hfu : 5000 ≤ fu) (hi : i < nS) (hD : DL M m nS nL nC nO) (hG : DG m nS nL nC nO) (hs : m 19 i = nI s) (hs6 : s < 6) (h153 : M 153 s = m 18 s) {z : Nat} (hz : m 18 s = nI z) (hzb : z < 2 ^ 20) : f_L_guess fu (nI i) M = some (nI (gss m i nC z)) := by
  have hS3 := hG.1.2
  have e6 : (6 : Int32) + nI i = nI (6 + i) := nI_add 6 i
  have hle : z / 2 ^ ct (snt m i) nC ≤ z := Nat.div_le_self _ _
  have h0 := lgssL (fu := fu) (k44 := fun (x3_5 : Int32) => (if x3_5 ≤ 0 then some (1 : Int32) else some x3_5)) hfu hi hD hG hzb nC 0 fu (by omega) (by have := hG.2.2.1.2; omega)
  simp only [ct, Nat.pow_zero, Nat.div_one] at h0
  simp (disch := omega) only [f_L_guess, e6, inb_nI, grd_true, nI_clamp, hD.2.1 i hi, hs, nm_d, jn_d, h153, hz]
  refine Eq.trans h0 ?_
  simp only [gss]
  generalize z / 2 ^ ct (snt m i) nC = y at hle ⊢
  by_cases hq : y = 0
  · rw [hq, if_pos (show nI 0 ≤ 0 by decide)]; rfl
  · rw [if_neg (fun zz => by
      have : nI y ≤ nI 0 := zz
      rw [nI_leI (by omega) (by omega)] at this
      omega)]
    congr 2
    omega
/-! the next seat -/
def cstN (m : Mem) (nL nC : Nat) (tk : Nat → Bool) (z : Nat → Nat) (f : Nat) : Nat := gss m f nC (z f) + if fro (lkd m tk f) 0 nL = none then 1000 else 0
def cstO (m : Mem) (nL nC : Nat) (tk : Nat → Bool) (z : Nat → Nat) (o : Option Nat) : Nat := match o with | none => 2 ^ 20 | some f => cstN m nL nC tk z f
def lnkO (m : Mem) (nL : Nat) (tk : Nat → Bool) (o : Option Nat) : Bool := match o with | none => false | some f => decide (fro (lkd m tk f) 0 nL ≠ none)
def btr (m : Mem) (nL nC : Nat) (tk : Nat → Bool) (z : Nat → Nat) (s : Nat) (o : Option Nat) : Bool := match o with | none => true | some f => decide (cstN m nL nC tk z s < cstN m nL nC tk z f)
theorem gss_12 {q : Nat} (h : q ≤ 12) : 1 ≤ gss m i nC q ∧ gss m i nC q ≤ 12 := by
  have hle : q / 2 ^ ct (snt m i) nC ≤ q := Nat.div_le_self _ _
  simp only [gss]
  omega
def nsC (fu : Nat) (M : Mem) (n : Nat) (x1 x2 x3 v11 v13 : Int32) : Option Int32 := f_X11_nextSeat_L6 fu M n (if v13 = 0 then x1 else x3) (if x2 = 0 then (if v11 = 0 then 0 else 1) else 1) (x3 + 1)
def nsB (fu : Nat) (M : Mem) (n : Nat) (x1 x2 x3 v11 : Int32) : Option Int32 := if x1 = -1 then nsC fu M n x1 x2 x3 v11 1 else if v11 = 0 then (if v11 = x2 then bd (f_X11_guess fu x3 M) (fun r_26 => bd (f_X11_guess fu x1 M) (fun r_28 => (if r_28 ≤ r_26 then nsC fu M n x1 x2 x3 v11 0 else nsC fu M n x1 x2 x3 v11 1))) else nsC fu M n x1 x2 x3 v11 0) else if x2 = 0 then nsC fu M n x1 x2 x3 v11 1 else (if v11 = x2 then bd (f_X11_guess fu x3 M) (fun r_26 => bd (f_X11_guess fu x1 M) (fun r_28 => (if r_28 ≤ r_26 then nsC fu M n x1 x2 x3 v11 0 else nsC fu M n x1 x2 x3 v11 1))) else nsC fu M n x1 x2 x3 v11 0)
theorem nsSplit {n : Nat} {x1 x2 x3 : Int32} : f_X11_nextSeat_L6 fu M (n + 1) x1 x2 x3 = if M 0 22 ≤ x3 then some x1 else grd (inb x3 3) (if M 42 x3.toNatClampNeg = 0 then bd (f_X11_linkOf fu x3 M) (fun r => nsB fu M n x1 x2 x3 (if r = -1 then 0 else 1)) else f_X11_nextSeat_L6 fu M n x1 x2 (x3 + 1)) := rfl
theorem nextB {k326 : Int32 → Option (Int32 × Mem)} (hfu : 5000 ≤ fu) (hD : DL M m nS nL nC nO) (hG : DG m nS nL nC nO) (hT : TKL M m tk p) (hz : ∀ j, j < nS → ∃ s, s < 6 ∧ m 19 j = nI s ∧ m 18 s = nI (z j) ∧ z j ≤ 12 ∧ M 153 s = m 18 s) : ∀ d s n n' (o : Option Nat), s + d = nS → d < n → d < n' → (∀ f, o = some f → f < nS ∧ tk f = false) →
    ∃ o' : Option Nat, f_L_asks_L249 fu M k326 n (oI o) (nI (cstO m nL nC tk z o)) (nI s) = k326 (oI o') ∧ f_X11_nextSeat_L6 fu m n' (oI o) (bI (lnkO m nL tk o)) (nI s) = some (oI o') ∧ (∀ f, o' = some f → f < nS ∧ tk f = false) ∧ (o' = none → o = none ∧ ∀ j, s ≤ j → j < nS → tk j = true) := by
  have hS3 := hG.1.2
  intro d
  induction d with
  | zero =>
    intro s n n' o h1 h2 h3 ho
    obtain ⟨n, rfl⟩ := fu1 h2
    obtain ⟨n', rfl⟩ := fu1 h3
    obtain rfl : s = nS := by omega
    refine ⟨o, ?_, ?_, ho, fun h => ⟨h, fun j _ _ => by omega⟩⟩
    · simp (disch := omega) only [f_L_asks_L249, hD.1.1, nI_leI, Nat.le_refl, if_true]
    · simp (disch := omega) only [f_X11_nextSeat_L6, hG.1.1, lit, nI_add, pk_mul, pk_sub, nI_clamp, inb_nI, nI_leI, nI_ltI, nI_eq, add_m1, ↓reduceIte, grd_true, nm_d, jn_d, bd_some, bm_some, om_some, om_none, Nat.le_refl]
  | succ d ih =>
    intro s n n' o h1 h2 h3 ho
    obtain ⟨n, rfl⟩ := fu1 h2
    obtain ⟨n', rfl⟩ := fu1 h3
    have h4 : ¬ nS ≤ s := by omega
    have hs3 : s < 3 := by omega
    have t151 := hT.1 s hs3
    have t42 := hT.2.1 s hs3
    obtain ⟨q, k1, k2, k3, k4, k5⟩ := hz s (by omega)
    have eg := guess_eq (fu := fu) hfu hG hs3 k2 k1 k3 (by omega)
    have egl := lguess_eq (fu := fu) hfu (show s < nS by omega) hD hG k2 k1 k5 k3 (by omega)
    have el := mlink_eq (fu := fu) hfu hG hT hs3
    have ell := llink_eq (fu := fu) hfu hD hG hT hs3
    have hfl : ∀ l, fro (lkd m tk s) 0 nL = some l → l < 3 := fun l hl => by have := fro_lt hl; have := hG.2.1.2; omega
    have c2 : (oI (fro (lkd m tk s) 0 nL) = -nI 1) = (fro (lkd m tk s) 0 nL = none) := propext (oI_none (fun l hl => by have := hfl l hl; omega))
    have c2' : ((0 : Int32) ≤ oI (fro (lkd m tk s) 0 nL)) = (fro (lkd m tk s) 0 nL ≠ none) := by
      rw [← Int32.not_lt, oI_neg (co := fro (lkd m tk s) 0 nL) (fun l hl => by have := hfl l hl; omega)]
    have c3 : (oI o = -nI 1) = (o = none) := propext (oI_none (fun l hl => by have := (ho l hl).1; omega))
    have e4 : (4 : Int32) * nI s = nI (4 * s) := pk_mul 4 s
    have hg12 := gss_12 (m := m) (i := s) (nC := nC) k4
    have hcst : nI (gss m s nC (z s)) + (if fro (lkd m tk s) 0 nL ≠ none then 0 else 1000) = nI (cstN m nL nC tk z s) := by
      simp only [cstN]
      by_cases hf : fro (lkd m tk s) 0 nL = none
      · rw [if_neg (by simpa using hf), if_pos hf, show (1000 : Int32) = nI 1000 from rfl, nI_add]
      · rw [if_pos hf, if_neg hf, show (0 : Int32) = nI 0 from rfl, nI_add]
    cases ht : tk s with
    | true =>
      have hlt : ¬ M 151 (4 * s) < 0 := by rw [t151, ht]; decide
      rw [ht] at t42
      have n10 : ¬ bI true = 0 := by decide
      obtain ⟨o', g1, g2, g3, g4⟩ := ih (s + 1) n n' o (by omega) (by omega) (by omega) ho
      refine ⟨o', ?_, ?_, g3, fun h => ⟨(g4 h).1, fun j hj1 hj2 => ?_⟩⟩
      · simp (disch := omega) only [f_L_asks_L249, hD.1.1, nI_leI, h4, if_false, e4, inb_nI, grd_true, nI_clamp, hlt, nm_d, nI_1]
        exact g1
      · simp (disch := omega) only [f_X11_nextSeat_L6, hG.1.1, nI_leI, h4, if_false, inb_nI, grd_true, nI_clamp, t42, n10, nm_d, nI_1]
        exact g2
      · by_cases hjs : j = s
        · subst hjs; exact ht
        · exact (g4 h).2 j (by omega) hj2
    | false =>
      have hlt : M 151 (4 * s) < 0 := by rw [t151, ht]
      rw [ht] at t42
      have hmain : ∀ b : Bool, b = btr m nL nC tk z s o → ∃ o' : Option Nat, (if b = true then f_L_asks_L249 fu M k326 n (nI s) (nI (cstN m nL nC tk z s)) (nI (s + 1)) else f_L_asks_L249 fu M k326 n (oI o) (nI (cstO m nL nC tk z o)) (nI (s + 1))) = k326 (oI o') ∧ (if b = true then f_X11_nextSeat_L6 fu m n' (nI s) (bI (decide (fro (lkd m tk s) 0 nL ≠ none))) (nI (s + 1)) else f_X11_nextSeat_L6 fu m n' (oI o) (bI (lnkO m nL tk o)) (nI (s + 1))) = some (oI o') ∧ (∀ f, o' = some f → f < nS ∧ tk f = false) ∧ (o' = none → o = none ∧ ∀ j, s ≤ j → j < nS → tk j = true) := by
        intro b hb
        cases b with
        | true =>
          obtain ⟨o', g1, g2, g3, g4⟩ := ih (s + 1) n n' (some s) (by omega) (by omega) (by omega) (fun f hf => by cases hf; exact ⟨by omega, ht⟩)
          exact ⟨o', by rw [if_pos rfl]; exact g1, by rw [if_pos rfl]; exact g2, g3, fun h => absurd (g4 h).1 (by simp)⟩
        | false =>
          obtain ⟨o', g1, g2, g3, g4⟩ := ih (s + 1) n n' o (by omega) (by omega) (by omega) ho
          refine ⟨o', by rw [if_neg (by decide)]; exact g1, by rw [if_neg (by decide)]; exact g2, g3, fun h => ?_⟩
          have := (g4 h).1
          subst this
          cases hb
      have hcs : cstN m nL nC tk z s ≤ 1012 := by simp only [cstN]; split <;> omega
      have hcf : ∀ f, o = some f → cstN m nL nC tk z f ≤ 1012 ∧ gss m f nC (z f) ≤ 12 := fun f hf => by
        obtain ⟨q', _, _, _, k4', _⟩ := hz f (ho f hf).1
        have := gss_12 (m := m) (i := f) (nC := nC) k4'
        simp only [cstN]
        split <;> omega
      have hltO : (nI (cstN m nL nC tk z s) < nI (cstO m nL nC tk z o)) = (btr m nL nC tk z s o = true) := by
        cases o with
        | none => exact propext ⟨fun _ => rfl, fun _ => nI_lt (show cstN m nL nC tk z s < 2 ^ 20 by omega) (show 2 ^ 20 < 2 ^ 31 by omega)⟩
        | some f =>
          have := hcf f rfl
          exact propext ((nI_ltI (by omega) (by show cstN m nL nC tk z f < _; omega)).trans (by simp [btr, cstO]))
      have eL : f_L_asks_L249 fu M k326 (n + 1) (oI o) (nI (cstO m nL nC tk z o)) (nI s) = if btr m nL nC tk z s o = true then f_L_asks_L249 fu M k326 n (nI s) (nI (cstN m nL nC tk z s)) (nI (s + 1)) else f_L_asks_L249 fu M k326 n (oI o) (nI (cstO m nL nC tk z o)) (nI (s + 1)) := by
        simp (disch := omega) only [f_L_asks_L249, hD.1.1, nI_leI, h4, if_false, e4, inb_nI, grd_true, nI_clamp, hlt, if_true, egl, ell, bd_some, nm_d, nI_1, c2', hcst, hltO]
      have eX : f_X11_nextSeat_L6 fu m (n' + 1) (oI o) (bI (lnkO m nL tk o)) (nI s) = if btr m nL nC tk z s o = true then f_X11_nextSeat_L6 fu m n' (nI s) (bI (decide (fro (lkd m tk s) 0 nL ≠ none))) (nI (s + 1)) else f_X11_nextSeat_L6 fu m n' (oI o) (bI (lnkO m nL tk o)) (nI (s + 1)) := by
        have hb0 : bI false = 0 := rfl
        have hv : (if fro (lkd m tk s) 0 nL = none then (0 : Int32) else 1) = bI (decide (fro (lkd m tk s) 0 nL ≠ none)) := by
          by_cases hf : fro (lkd m tk s) 0 nL = none
          · rw [if_pos hf]; simp [hf, bI]
          · rw [if_neg hf]; simp [hf, bI]
        have K1 : nsC fu m n' (oI o) (bI (lnkO m nL tk o)) (nI s) (bI (decide (fro (lkd m tk s) 0 nL ≠ none))) 1 = f_X11_nextSeat_L6 fu m n' (nI s) (if bI (lnkO m nL tk o) = 0 then (if bI (decide (fro (lkd m tk s) 0 nL ≠ none)) = 0 then 0 else 1) else 1) (nI (s + 1)) := by
          simp only [nsC, nI_1, if_neg (show ¬ (1 : Int32) = 0 by decide)]
        have K0 : nsC fu m n' (oI o) (bI (lnkO m nL tk o)) (nI s) (bI (decide (fro (lkd m tk s) 0 nL ≠ none))) 0 = f_X11_nextSeat_L6 fu m n' (oI o) (if bI (lnkO m nL tk o) = 0 then (if bI (decide (fro (lkd m tk s) 0 nL ≠ none)) = 0 then 0 else 1) else 1) (nI (s + 1)) := by
          simp only [nsC, nI_1, if_true]
        rw [nsSplit, hG.1.1, if_neg (by rw [nI_leI (by omega) (by omega)]; exact h4), inb_nI hs3 (by omega), grd_true, nI_clamp (by omega), t42, if_pos hb0, el, bd_some, show (if oI (fro (lkd m tk s) 0 nL) = -1 then (0 : Int32) else 1) = bI (decide (fro (lkd m tk s) 0 nL ≠ none)) by rw [← hv, show (-1 : Int32) = -nI 1 from rfl]; simp only [c2]]
        unfold nsB
        rw [K1, K0]
        cases o with
        | none =>
          rw [if_pos (show oI none = -1 from rfl), if_pos (show btr m nL nC tk z s none = true from rfl)]
          congr 1
          show (if (0 : Int32) = 0 then _ else _) = _
          rw [if_pos rfl]
          cases decide (fro (lkd m tk s) 0 nL ≠ none) <;> decide
        | some f =>
          obtain ⟨q', k1', k2', k3', k4', k5'⟩ := hz f (ho f rfl).1
          have egf := guess_eq (fu := fu) hfu hG (show f < 3 by have := (ho f rfl).1; omega) k2' k1' k3' (by omega)
          have hgf := gss_12 (m := m) (i := f) (nC := nC) k4'
          have eoI : oI (some f) = nI f := rfl
          have leq : (nI (gss m f nC (z f)) ≤ nI (gss m s nC (z s))) = (gss m f nC (z f) ≤ gss m s nC (z s)) := propext (nI_leI (by omega) (by omega))
          have nm1 : ¬ nI f = -1 := nI_nm1 (by have := (ho f rfl).1; omega)
          simp only [eoI, egf, eg, bd_some, leq, if_neg nm1]
          by_cases hs0 : fro (lkd m tk s) 0 nL = none <;> by_cases hf0 : fro (lkd m tk f) 0 nL = none <;> by_cases hq : gss m f nC (z f) ≤ gss m s nC (z s)
          all_goals simp [cstN, lnkO, btr, hs0, hf0, hq, bI]
          all_goals (try omega)
          all_goals (rw [if_neg (by omega)])
      obtain ⟨o', g1, g2, g3, g4⟩ := hmain _ rfl
      exact ⟨o', eL.trans g1, eX.trans g2, g3, g4⟩
end LinkL
