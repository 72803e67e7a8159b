/-! ===== cells that are picked, links that hold: both ===== -/
def PC (M : Mem) (a0 : Nat) (F : Nat → List Row) (j : Nat) (r : Row) : Prop := RC M (a0 + 5 + 1 + 3 * j) (F j) ∧ ∃ x, M (a0 + 2) j = nI x ∧ (F j)[x]? = some r
def PM (m : Mem) (F : Nat → List Row) (j : Nat) (r : Row) : Prop := RW m j (F j) ∧ ∃ x, m 51 j = nI x ∧ (F j)[x]? = some r
def lk1 (m : Mem) (R : Nat → Row) (l : Nat) : Bool := !decide (f_X10_isNumber (cel (R (m 20 l).toNatClampNeg) (m 21 l).toNatClampNeg) = nI 0) && decide (cel (R (m 20 l).toNatClampNeg) (m 21 l).toNatClampNeg = cel (R (m 22 l).toNatClampNeg) (m 23 l).toNatClampNeg)
def lkS (m : Mem) (R : Nat → Row) (j l : Nat) : Bool := !decide (m 22 l = nI j) || lk1 m R l
section Links
variable {fu nS nL nC nO i j s t u e p c a0 : Nat} {M m N n : Mem} {F : Nat → List Row} {r : Row} {R : Nat → Row}
theorem picked_eq (hj : j < 3) (h : PC M a0 F j r) (hc : c < 4) : f_X0_pickedCell fu a0 (nI j) (nI c) M = some (cel r c) := by
  obtain ⟨h1, x, h2, h3⟩ := h
  have hx := gl_lt h3
  have h12 := h1.2.1
  simp (disch := omega) only [f_X0_pickedCell, inb_nI, grd_true, nI_clamp, nm_d, h2, cellAt_eq h1 h3 hc, bd_some]
theorem cellM_eq (hj : j < 3) (h : PM m F j r) (hc : c < 4) : f_X11_cellAt fu (nI j) (nI c) m = some (cel r c) := by
  obtain ⟨h1, x, h2, h3⟩ := h
  have hx := gl_lt h3
  have h12 := h1.2.1
  have e := h1.2.2 x r h3 c hc
  simp (disch := omega) only [f_X11_cellAt, lit, nI_add, pk_mul, pk_sub, nI_clamp, inb_nI, nI_leI, nI_ltI, nI_eq, add_m1, ↓reduceIte, grd_true, nm_d, jn_d, bd_some, bm_some, om_some, om_none, h2, e]
theorem lk_get (hG : DG m nS nL nC nO) {l : Nat} (hl : l < nL) : ∃ a b c d, m 20 l = nI a ∧ m 22 l = nI b ∧ m 21 l = nI c ∧ m 23 l = nI d ∧ a < b ∧ b < nS ∧ c < 4 ∧ d < 4 ∧ ∀ R : Nat → Row, lk1 m R l = (!decide (f_X10_isNumber (cel (R a) c) = nI 0) && decide (cel (R a) c = cel (R b) d)) := by
  have hS3 := hG.1.2
  obtain ⟨a, b, c, d, q1, q2, q3, q4, q5, q6, q7, q8⟩ := hG.2.2.2.2.2.2.2.1 l hl
  refine ⟨a, b, c, d, q1, q2, q3, q4, q5, q6, q7, q8, fun R => ?_⟩
  simp only [lk1, q1, q2, q3, q4]
  rw [nI_clamp (by omega), nI_clamp (by omega), nI_clamp (by omega), nI_clamp (by omega)]
theorem linksL (hD : DR M m) (hG : DG m nS nL nC nO) (hj : j < nS) (hP : ∀ i, i ≤ j → PC M a0 F i (R i)) : ∀ d l n, l + d = nL → d < n → al (lkS m R j) l = true → f_X0_linksHold_L2 fu a0 (nI j) M n (nI (2 * l + 1)) = some (bI (al (lkS m R j) nL)) := by
  have hS3 := hG.1.2
  have hb3 := hG.2.1.2
  intro d
  induction d with
  | zero =>
    intro l n h1 h2 hw
    obtain ⟨n, rfl⟩ := fu1 h2
    obtain rfl : l = nL := by omega
    have h3 : 2 * l ≤ 2 * l + 1 := by omega
    simp (disch := omega) only [f_X0_linksHold_L2, hD.1.2.1, hG.2.1.1, lit, nI_add, pk_mul, pk_sub, nI_clamp, inb_nI, nI_leI, nI_ltI, nI_eq, add_m1, ↓reduceIte, grd_true, nm_d, jn_d, bd_some, bm_some, om_some, om_none, h3, hw]
    rfl
  | succ d ih =>
    intro l n h1 h2 hw
    obtain ⟨n, rfl⟩ := fu1 h2
    have h3 : ¬ 2 * nL ≤ 2 * l + 1 := by omega
    obtain ⟨a, b, c, dd, q1, q2, q3, q4, q5, q6, q7, q8, q9⟩ := lk_get hG (show l < nL by omega)
    obtain ⟨r1, r2, r3, r4⟩ := hD.2.2 l (by omega)
    have e2 : al (lkS m R j) (l + 1) = lkS m R j l := by simp only [al, hw, Bool.true_and]
    have ih' := fun hh => ih (l + 1) n (by omega) (by omega) hh
    rw [show 2 * (l + 1) + 1 = 2 * l + 1 + 2 by omega] at ih'
    have hB : (nI b = nI j) = (b = j) := propext (nI_eq (by omega) (by omega))
    by_cases hbj : b = j
    · subst hbj
      have ec := picked_eq (fu := fu) (c := dd) (show b < 3 by omega) (hP b (Nat.le_refl _)) q8
      have ea := picked_eq (fu := fu) (c := c) (show a < 3 by omega) (hP a (by omega)) q7
      have hlk : lkS m R b l = (!decide (f_X10_isNumber (cel (R a) c) = nI 0) && decide (cel (R a) c = cel (R b) dd)) := by simp only [lkS, q2, decide_true, Bool.not_true, Bool.false_or, q9]
      rw [hlk] at e2
      simp (disch := omega) only [f_X0_linksHold_L2, hD.1.2.1, hG.2.1.1, lit, nI_add, pk_mul, pk_sub, nI_clamp, inb_nI, nI_leI, nI_ltI, nI_eq, add_m1, ↓reduceIte, grd_true, nm_d, jn_d, bd_some, bm_some, om_some, om_none, h3, r3, q2, r4, q4, ec, Nat.add_sub_cancel, r1, q1, r2, q3, ea]
      by_cases hn : f_X10_isNumber (cel (R b) dd) = nI 0
      · rw [if_pos hn]
        have : lkS m R b l = false := by
          rw [hlk]
          by_cases hq : cel (R a) c = cel (R b) dd
          · rw [hq]; simp [hn]
          · simp [hq]
        rw [al_f this (by omega)]
        rfl
      · rw [if_neg hn]
        by_cases hq : cel (R b) dd = cel (R a) c
        · rw [if_pos hq]
          exact ih' (by rw [e2, ← hq]; simp [hn])
        · rw [if_neg hq]
          have : lkS m R b l = false := by
            rw [hlk]
            have : ¬ cel (R a) c = cel (R b) dd := fun h => hq h.symm
            simp [this]
          rw [al_f this (by omega)]
          rfl
    · simp (disch := omega) only [f_X0_linksHold_L2, hD.1.2.1, hG.2.1.1, lit, nI_add, pk_mul, pk_sub, nI_clamp, inb_nI, nI_leI, nI_ltI, nI_eq, add_m1, ↓reduceIte, grd_true, nm_d, jn_d, bd_some, bm_some, om_some, om_none, h3, r3, q2, hbj]
      exact ih' (by rw [e2]; simp [lkS, q2, hB, hbj])
theorem links_eq (hfu : 5000 ≤ fu) (hD : DR M m) (hG : DG m nS nL nC nO) (hj : j < nS) (hP : ∀ i, i ≤ j → PC M a0 F i (R i)) : f_X0_linksHold fu a0 (nI j) M = some (bI (al (lkS m R j) nL)) := linksL hD hG hj hP nL 0 fu (by omega) (by have := hG.2.1.2; omega) rfl
/-- a seat that isn't there has no links -/
theorem linksN (hfu : 5000 ≤ fu) (hD : DR M m) (hG : DG m nS nL nC nO) (hj : nS ≤ j) (hj3 : j < 3) : ∀ d l n, l + d = nL → d < n → f_X0_linksHold_L2 fu a0 (nI j) M n (nI (2 * l + 1)) = some 1 := by
  have hS3 := hG.1.2
  have hb3 := hG.2.1.2
  intro d
  induction d with
  | zero =>
    intro l n h1 h2
    obtain ⟨n, rfl⟩ := fu1 h2
    obtain rfl : l = nL := by omega
    have h3 : 2 * l ≤ 2 * l + 1 := by omega
    simp (disch := omega) only [f_X0_linksHold_L2, hD.1.2.1, hG.2.1.1, lit, nI_add, pk_mul, pk_sub, nI_clamp, inb_nI, nI_leI, nI_ltI, nI_eq, add_m1, ↓reduceIte, grd_true, nm_d, jn_d, bd_some, bm_some, om_some, om_none, h3]
  | succ d ih =>
    intro l n h1 h2
    obtain ⟨n, rfl⟩ := fu1 h2
    have h3 : ¬ 2 * nL ≤ 2 * l + 1 := by omega
    obtain ⟨a, b, c, dd, q1, q2, q3, q4, q5, q6, q7, q8, q9⟩ := lk_get hG (show l < nL by omega)
    obtain ⟨r1, r2, r3, r4⟩ := hD.2.2 l (by omega)
    have hbj : ¬ b = j := by omega
    have ih' := ih (l + 1) n (by omega) (by omega)
    rw [show 2 * (l + 1) + 1 = 2 * l + 1 + 2 by omega] at ih'
    simp (disch := omega) only [f_X0_linksHold_L2, hD.1.2.1, hG.2.1.1, lit, nI_add, pk_mul, pk_sub, nI_clamp, inb_nI, nI_leI, nI_ltI, nI_eq, add_m1, ↓reduceIte, grd_true, nm_d, jn_d, bd_some, bm_some, om_some, om_none, h3, r3, q2, hbj]
    exact ih'
theorem linksN_eq (hfu : 5000 ≤ fu) (hD : DR M m) (hG : DG m nS nL nC nO) (hj : nS ≤ j) (hj3 : j < 3) : f_X0_linksHold fu a0 (nI j) M = some 1 := linksN hfu hD hG hj hj3 nL 0 fu (by omega) (by have := hG.2.1.2; omega)
theorem areL (hG : DG m nS nL nC nO) (hP : ∀ i, i < nS → PM m F i (R i)) (hok : ∀ i, i < nS → ∀ c, c < 4 → okc (cel (R i) c)) : ∀ d l n, l + d = nL → d < n → f_X11_areLinked_L4 fu m n (bI (al (lk1 m R) l)) (nI l) = some (bI (al (lk1 m R) nL)) := by
  have hS3 := hG.1.2
  have hb3 := hG.2.1.2
  intro d
  induction d with
  | zero =>
    intro l n h1 h2
    obtain ⟨n, rfl⟩ := fu1 h2
    obtain rfl : l = nL := by omega
    simp (disch := omega) only [f_X11_areLinked_L4, hG.2.1.1, lit, nI_add, pk_mul, pk_sub, nI_clamp, inb_nI, nI_leI, nI_ltI, nI_eq, add_m1, ↓reduceIte, grd_true, nm_d, jn_d, bd_some, bm_some, om_some, om_none, Nat.le_refl, isb_bI]
  | succ d ih =>
    intro l n h1 h2
    obtain ⟨n, rfl⟩ := fu1 h2
    have h3 : ¬ nL ≤ l := by omega
    obtain ⟨a, b, c, dd, q1, q2, q3, q4, q5, q6, q7, q8, q9⟩ := lk_get hG (show l < nL by omega)
    have ih' := ih (l + 1) n (by omega) (by omega)
    simp only [al, q9] at ih'
    have ea := cellM_eq (fu := fu) (c := c) (show a < 3 by omega) (hP a (by omega)) q7
    have eb := cellM_eq (fu := fu) (c := dd) (show b < 3 by omega) (hP b (by omega)) q8
    simp (disch := omega) only [f_X11_areLinked_L4, hG.2.1.1, lit, nI_add, pk_mul, pk_sub, nI_clamp, inb_nI, nI_leI, nI_ltI, nI_eq, add_m1, ↓reduceIte, grd_true, nm_d, jn_d, bd_some, bm_some, om_some, om_none, h3, q1, q2, q3, q4, ea, eb, bI_0, st_num (hok a (by omega) c q7)]
    cases hw : al (lk1 m R) l with
    | false =>
      rw [hw] at ih'
      rw [if_pos rfl]
      exact ih'
    | true =>
      rw [hw] at ih'
      rw [if_neg (by decide)]
      by_cases hn : f_X10_isNumber (cel (R a) c) = nI 0
      · rw [if_pos hn]
        simp only [hn, decide_true, Bool.not_true, Bool.false_and, Bool.and_false] at ih'
        exact ih'
      · rw [if_neg hn]
        by_cases hq : cel (R a) c = cel (R b) dd
        · rw [if_pos hq]
          rw [hq] at hn
          simp only [hn, hq, decide_true, decide_false, Bool.not_false, Bool.true_and] at ih'
          exact ih'
        · rw [if_neg hq]
          simp only [hn, hq, decide_false, Bool.not_false, Bool.and_false] at ih'
          exact ih'
theorem areLinked_eq (hfu : 5000 ≤ fu) (hG : DG m nS nL nC nO) (hP : ∀ i, i < nS → PM m F i (R i)) (hok : ∀ i, i < nS → ∀ c, c < 4 → okc (cel (R i) c)) : f_X11_areLinked fu m = some (bI (al (lk1 m R) nL)) := areL hG hP hok nL 0 fu (by omega) (by have := hG.2.1.2; omega)
theorem lk_split (hG : DG m nS nL nC nO) : al (lk1 m R) nL = (al (lkS m R 1) nL && al (lkS m R 2) nL) := by
  have hS3 := hG.1.2
  rw [Bool.eq_iff_iff, Bool.and_eq_true, al_iff, al_iff, al_iff]
  refine ⟨fun h => ⟨fun k hk => by simp [lkS, h k hk], fun k hk => by simp [lkS, h k hk]⟩, fun h k hk => ?_⟩
  obtain ⟨a, b, c, dd, q1, q2, q3, q4, q5, q6, q7, q8, q9⟩ := lk_get hG hk
  have h1 := h.1 k hk
  have h2 := h.2 k hk
  have hB1 : (nI b = nI 1) = (b = 1) := propext (nI_eq (by omega) (by omega))
  have hB2 : (nI b = nI 2) = (b = 2) := propext (nI_eq (by omega) (by omega))
  simp only [lkS, q2, hB1, hB2, Bool.or_eq_true, Bool.not_eq_true', decide_eq_false_iff_not] at h1 h2
  rcases h1 with h1 | h1
  · rcases h2 with h2 | h2
    · omega
    · exact h2
  · exact h1
theorem lkS_cg {R' : Nat → Row} (hj : j < 3) (hG : DG m nS nL nC nO) (h : ∀ i, i ≤ j → R i = R' i) : al (lkS m R j) nL = al (lkS m R' j) nL := by
  have hS3 := hG.1.2
  rw [Bool.eq_iff_iff, al_iff, al_iff]
  have : ∀ k, k < nL → lkS m R j k = lkS m R' j k := by
    intro k hk
    obtain ⟨a, b, c, dd, q1, q2, q3, q4, q5, q6, q7, q8, q9⟩ := lk_get hG hk
    simp only [lkS, q9, q2]
    by_cases hb : nI b = nI j
    · have : b = j := (nI_eq (by omega) (by omega)).mp hb
      rw [h a (by omega), h b (by omega)]
    · simp [hb]
  exact ⟨fun hh k hk => by rw [← this k hk]; exact hh k hk, fun hh k hk => by rw [this k hk]; exact hh k hk⟩
end Links
