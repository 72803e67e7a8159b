/-! ===== the draft: both ===== -/
def DR (M m : Mem) : Prop := (M 80 9 = m 0 22 ∧ M 80 10 = m 0 24 ∧ M 80 11 = m 0 29 ∧ M 80 12 = m 0 34 ∧ M 80 13 = m 0 37 ∧ M 80 14 = m 0 38) ∧ (M 81 = m 19 ∧ M 84 = m 24 ∧ M 85 = m 25 ∧ M 86 = m 26 ∧ M 87 = m 27 ∧ M 88 = m 28 ∧ M 89 = m 29) ∧ ∀ l, l < 3 → M 82 (2 * l) = m 20 l ∧ M 83 (2 * l) = m 21 l ∧ M 82 (2 * l + 1) = m 22 l ∧ M 83 (2 * l + 1) = m 23 l
/-- what a draft is like: seats, links, conditions, outputs -/
def DG (m : Mem) (nS nL nC nO : Nat) : Prop := (m 0 22 = nI nS ∧ nS ≤ 3) ∧ (m 0 24 = nI nL ∧ nL ≤ 3) ∧ (m 0 29 = nI nC ∧ nC ≤ 4) ∧ (m 0 34 = nI nO ∧ nO ≤ 3) ∧ (∃ k, 1 ≤ k ∧ k ≤ 40 ∧ m 0 37 = nI k) ∧ (m 0 38 = 0 ∨ m 0 38 = 1)
  ∧ (∀ i, i < nS → ∃ s, s < 6 ∧ m 19 i = nI s)
  ∧ (∀ l, l < nL → ∃ a b c d, m 20 l = nI a ∧ m 22 l = nI b ∧ m 21 l = nI c ∧ m 23 l = nI d ∧ a < b ∧ b < nS ∧ c < 4 ∧ d < 4)
  ∧ (∀ w, w < nC → ∃ a c, m 24 w = nI a ∧ m 25 w = nI c ∧ a < nS ∧ c < 4 ∧ (m 26 w = 0 → -999 ≤ m 27 w ∧ m 27 w ≤ 999))
  ∧ (∀ o, o < nO → ∃ a c, m 28 o = nI a ∧ m 29 o = nI c ∧ a < nS ∧ c < 4)
/-- all, some, how many below n -/
def al (P : Nat → Bool) : Nat → Bool
  | 0 => true
  | n + 1 => al P n && P n
def an (P : Nat → Bool) : Nat → Bool
  | 0 => false
  | n + 1 => an P n || P n
def ct (P : Nat → Bool) : Nat → Nat
  | 0 => 0
  | n + 1 => ct P n + if P n = true then 1 else 0
def bI (b : Bool) : Int32 := if b = true then 1 else 0
def snt (m : Mem) (i w : Nat) : Bool := decide (m 24 w = nI i) && !decide (f_X10_canDo (f_X10_storeOf (m 19 i)) (m 25 w) (m 26 w) = 0)
def hld (m : Mem) (w : Nat) (r : Row) : Bool := !decide (f_X10_holdsFor (m 26 w) (m 27 w) (cel r (m 25 w).toNatClampNeg) = 0)
def hS (m : Mem) (i : Nat) (r : Row) (w : Nat) : Bool := !snt m i w || hld m w r
def hA (m : Mem) (i : Nat) (r : Row) (w : Nat) : Bool := !decide (m 24 w = nI i) || hld m w r
section DraftP
variable {P : Nat → Bool} {n k : Nat}
theorem al_lt (h : al P n = true) : ∀ i, i < n → P i = true := by
  induction n with
  | zero => intro i hi; omega
  | succ n ih =>
    intro i hi
    simp only [al, Bool.and_eq_true] at h
    by_cases hin : i = n
    · subst hin; exact h.2
    · exact ih h.1 i (by omega)
theorem al_of (h : ∀ i, i < n → P i = true) : al P n = true := by
  induction n with
  | zero => rfl
  | succ n ih => simp only [al, Bool.and_eq_true]; exact ⟨ih (fun i hi => h i (by omega)), h n (by omega)⟩
theorem al_f (h : P k = false) (hk : k < n) : al P n = false := by
  cases h1 : al P n with
  | false => rfl
  | true => rw [al_lt h1 k hk] at h; cases h
theorem an_t (h : P k = true) (hk : k < n) : an P n = true := by
  induction n with
  | zero => omega
  | succ n ih =>
    simp only [an, Bool.or_eq_true]
    by_cases hin : k = n
    · subst hin; exact Or.inr h
    · exact Or.inl (ih (by omega))
theorem an_ex (h : an P n = true) : ∃ k, k < n ∧ P k = true := by
  induction n with
  | zero => cases h
  | succ n ih =>
    simp only [an, Bool.or_eq_true] at h
    rcases h with h | h
    · obtain ⟨k, h1, h2⟩ := ih h; exact ⟨k, by omega, h2⟩
    · exact ⟨n, by omega, h⟩
theorem an_f (h : ∀ i, i < n → P i = false) : an P n = false := by
  cases h1 : an P n with
  | false => rfl
  | true => obtain ⟨k, h2, h3⟩ := an_ex h1; rw [h k h2] at h3; cases h3
theorem an_iff : an P n = true ↔ ∃ k, k < n ∧ P k = true := ⟨an_ex, fun ⟨_, h1, h2⟩ => an_t h2 h1⟩
theorem al_iff : al P n = true ↔ ∀ k, k < n → P k = true := ⟨al_lt, al_of⟩
theorem ct_le : ct P n ≤ n := by
  induction n with
  | zero => exact Nat.le_refl 0
  | succ n ih => simp only [ct]; split <;> omega
theorem bI_0 {b : Bool} : (bI b = nI 0) = (b = false) := by cases b <;> decide
theorem bI_1 {b : Bool} : (bI b = nI 1) = (b = true) := by cases b <;> decide
theorem isb_bI {b : Bool} : isb (bI b) = true := by cases b <;> decide
end DraftP
section Draft
variable {fu nS nL nC nO i w : Nat} {M m : Mem} {r : Row} {R : List Row}
theorem DG.src (h : DG m nS nL nC nO) (hi : i < nS) : ∃ s, s < 6 ∧ m 19 i = nI s := h.2.2.2.2.2.2.1 i hi
theorem sent_eq (hi : i < 3) (hw : w < 4) : f_X11_isSent fu (nI w) (nI i) m = some (bI (snt m i w)) := by
  simp (disch := omega) only [f_X11_isSent, inb_nI, grd_true, nI_clamp, st_can, st_store, snt, bI, Bool.and_eq_true, decide_eq_true_eq, Bool.not_eq_true', decide_eq_false_iff_not]
  by_cases h1 : m 24 w = nI i
  · rw [if_pos h1]
    by_cases h2 : f_X10_canDo (f_X10_storeOf (m 19 i)) (m 25 w) (m 26 w) = 0
    · rw [if_pos h2, if_neg (fun h => h.2 h2)]
    · rw [if_neg h2, if_pos ⟨h1, h2⟩]
  · rw [if_neg h1, if_neg (fun h => h1 h.1)]
theorem csent_eq (h : DR M m) (hi : i < 3) (hw : w < 4) : f_X4_isSent fu (nI w) (nI i) M = some (bI (snt m i w)) := by
  rw [← sent_eq (fu := fu) hi hw]
  simp only [f_X4_isSent, f_X11_isSent, h.2.1.1, h.2.1.2.1, h.2.1.2.2.1, h.2.1.2.2.2.1]
  rfl
theorem manySentL (hG : DG m nS nL nC nO) (hi : i < 3) : ∀ d w n, w + d = nC → d < n → f_X11_manySent_L4 fu (nI i) m n (nI (ct (snt m i) w)) (nI w) = some (nI (ct (snt m i) nC)) := by
  have hc := hG.2.2.1
  intro d
  induction d with
  | zero =>
    intro w n h1 h2
    obtain ⟨n, rfl⟩ := fu1 h2
    obtain rfl : w = nC := by omega
    simp (disch := omega) only [f_X11_manySent_L4, hc.1, lit, nI_add, pk_mul, pk_sub, nI_clamp, inb_nI, nI_leI, nI_ltI, nI_eq, add_m1, ↓reduceIte, grd_true, nm_d, jn_d, bd_some, bm_some, om_some, om_none, Nat.le_refl]
  | succ d ih =>
    intro w n h1 h2
    obtain ⟨n, rfl⟩ := fu1 h2
    have h3 : ¬ nC ≤ w := by omega
    have h4 := ih (w + 1) n (by omega) (by omega)
    simp only [ct] at h4
    simp (disch := omega) only [f_X11_manySent_L4, hc.1, lit, nI_add, pk_mul, pk_sub, nI_clamp, inb_nI, nI_leI, nI_ltI, nI_eq, add_m1, ↓reduceIte, grd_true, nm_d, jn_d, bd_some, bm_some, om_some, om_none, h3, sent_eq hi (show w < 4 by omega), bI_0]
    rw [← h4]
    cases hs : snt m i w with
    | true => rw [if_neg (by decide), if_pos rfl, nI_add]
    | false => rw [if_pos rfl, if_neg (by decide), nI_add]
theorem manySent_eq (hfu : 5000 ≤ fu) (hG : DG m nS nL nC nO) (hi : i < 3) : f_X11_manySent fu (nI i) m = some (nI (ct (snt m i) nC)) := manySentL hG hi nC 0 fu (by omega) (by have := hG.2.2.1.2; omega)
theorem sentOfL (h : DR M m) (hG : DG m nS nL nC nO) (hi : i < 3) : ∀ d w n, w + d = nC → d < n → f_X4_sentOf_L4 fu (nI i) M n (nI (ct (snt m i) w)) (nI w) = some (nI (ct (snt m i) nC)) := by
  have hc := hG.2.2.1
  intro d
  induction d with
  | zero =>
    intro w n h1 h2
    obtain ⟨n, rfl⟩ := fu1 h2
    obtain rfl : w = nC := by omega
    simp (disch := omega) only [f_X4_sentOf_L4, h.1.2.2.1, hc.1, lit, nI_add, pk_mul, pk_sub, nI_clamp, inb_nI, nI_leI, nI_ltI, nI_eq, add_m1, ↓reduceIte, grd_true, nm_d, jn_d, bd_some, bm_some, om_some, om_none, Nat.le_refl]
  | succ d ih =>
    intro w n h1 h2
    obtain ⟨n, rfl⟩ := fu1 h2
    have h3 : ¬ nC ≤ w := by omega
    have h4 := ih (w + 1) n (by omega) (by omega)
    simp only [ct] at h4
    simp (disch := omega) only [f_X4_sentOf_L4, h.1.2.2.1, hc.1, lit, nI_add, pk_mul, pk_sub, nI_clamp, inb_nI, nI_leI, nI_ltI, nI_eq, add_m1, ↓reduceIte, grd_true, nm_d, jn_d, bd_some, bm_some, om_some, om_none, h3, csent_eq h hi (show w < 4 by omega), bI_0]
    cases hs : snt m i w with
    | true =>
      simp only [hs, ↓reduceIte] at h4
      exact h4
    | false =>
      simp only [hs] at h4
      exact h4
theorem sentOf_eq (hfu : 5000 ≤ fu) (h : DR M m) (hG : DG m nS nL nC nO) (hi : i < 3) : f_X4_sentOf fu (nI i) M = some (nI (ct (snt m i) nC)) := sentOfL h hG hi nC 0 fu (by omega) (by have := hG.2.2.1.2; omega)
theorem hld_eq (hG : DG m nS nL nC nO) (hw : w < nC) (hr : ∀ c, c < 4 → okc (cel r c)) : (f_X11_holds (m 26 w) (m 27 w) (cel r (m 25 w).toNatClampNeg) = nI 0) = (hld m w r = false) ∧ (f_X10_holdsFor (m 26 w) (m 27 w) (cel r (m 25 w).toNatClampNeg) = nI 0) = (hld m w r = false) ∧ (m 25 w).toNatClampNeg < 4 ∧ m 25 w = nI (m 25 w).toNatClampNeg := by
  obtain ⟨a, c, h1, h2, h3, h4, h5⟩ := hG.2.2.2.2.2.2.2.2.1 w hw
  have hcc : (m 25 w).toNatClampNeg = c := by rw [h2, nI_clamp (by omega)]
  rw [hcc]
  refine ⟨?_, ?_, h4, h2⟩
  · rw [st_hold (hr c h4) h5]; simp only [hld, hcc]; simp [nI_0]
  · simp only [hld, hcc]; simp [nI_0]
theorem allHoldL (h : DR M m) (hG : DG m nS nL nC nO) {a p : Nat} (hi : i < 3) (hR : RC M a R) (hr : R[p]? = some r) (hok : ∀ c, c < 4 → okc (cel r c)) : ∀ d w n, w + d = nC → d < n → al (hA m i r) w = true → f_X4_allHold_L3 fu (nI i) a (nI p) M n (nI w) = some (bI (al (hA m i r) nC)) := by
  have hc := hG.2.2.1
  intro d
  induction d with
  | zero =>
    intro w n h1 h2 hw
    obtain ⟨n, rfl⟩ := fu1 h2
    obtain rfl : w = nC := by omega
    simp (disch := omega) only [f_X4_allHold_L3, h.1.2.2.1, hc.1, lit, nI_add, pk_mul, pk_sub, nI_clamp, inb_nI, nI_leI, nI_ltI, nI_eq, add_m1, ↓reduceIte, grd_true, nm_d, jn_d, bd_some, bm_some, om_some, om_none, Nat.le_refl, hw, bI]
  | succ d ih =>
    intro w n h1 h2 hw
    obtain ⟨n, rfl⟩ := fu1 h2
    have h3 : ¬ nC ≤ w := by omega
    obtain ⟨k1, k2, k3, k4⟩ := hld_eq hG (show w < nC by omega) hok
    have e := cellAt_eq (fu := fu) hR hr k3
    rw [← k4] at e
    have e2 : al (hA m i r) (w + 1) = hA m i r w := by simp only [al, hw, Bool.true_and]
    simp (disch := omega) only [f_X4_allHold_L3, h.1.2.2.1, hc.1, h.2.1.2.1, h.2.1.2.2.1, h.2.1.2.2.2.1, h.2.1.2.2.2.2.1, lit, nI_add, pk_mul, pk_sub, nI_clamp, inb_nI, nI_leI, nI_ltI, nI_eq, add_m1, ↓reduceIte, grd_true, nm_d, jn_d, bd_some, bm_some, om_some, om_none, h3, e, k2]
    by_cases h5 : m 24 w = nI i
    · rw [if_pos h5]
      cases h6 : hld m w r with
      | false =>
        have h7 : hA m i r w = false := by simp [hA, h5, h6]
        rw [if_pos rfl, al_f h7 (by omega)]
        rfl
      | true =>
        rw [if_neg (by decide)]
        exact ih (w + 1) n (by omega) (by omega) (by rw [e2]; simp [hA, h6])
    · rw [if_neg h5]
      exact ih (w + 1) n (by omega) (by omega) (by rw [e2]; simp [hA, h5])
theorem allHold_eq (hfu : 5000 ≤ fu) (h : DR M m) (hG : DG m nS nL nC nO) {a p : Nat} (hi : i < 3) (hR : RC M a R) (hr : R[p]? = some r) (hok : ∀ c, c < 4 → okc (cel r c)) : f_X4_allHold fu (nI i) a (nI p) M = some (bI (al (hA m i r) nC)) := allHoldL h hG hi hR hr hok nC 0 fu (by omega) (by have := hG.2.2.1.2; omega) rfl
theorem sentHoldL (h : DR M m) (hG : DG m nS nL nC nO) {a p : Nat} (hi : i < 3) (hR : RC M a R) (hr : R[p]? = some r) (hok : ∀ c, c < 4 → okc (cel r c)) : ∀ d w n, w + d = nC → d < n → al (hS m i r) w = true → f_X4_sentHold_L3 fu (nI i) a (nI p) M n (nI w) = some (bI (al (hS m i r) nC)) := by
  have hc := hG.2.2.1
  intro d
  induction d with
  | zero =>
    intro w n h1 h2 hw
    obtain ⟨n, rfl⟩ := fu1 h2
    obtain rfl : w = nC := by omega
    simp (disch := omega) only [f_X4_sentHold_L3, h.1.2.2.1, hc.1, lit, nI_add, pk_mul, pk_sub, nI_clamp, inb_nI, nI_leI, nI_ltI, nI_eq, add_m1, ↓reduceIte, grd_true, nm_d, jn_d, bd_some, bm_some, om_some, om_none, Nat.le_refl, hw, bI]
  | succ d ih =>
    intro w n h1 h2 hw
    obtain ⟨n, rfl⟩ := fu1 h2
    have h3 : ¬ nC ≤ w := by omega
    obtain ⟨k1, k2, k3, k4⟩ := hld_eq hG (show w < nC by omega) hok
    have e := cellAt_eq (fu := fu) hR hr k3
    rw [← k4] at e
    have e2 : al (hS m i r) (w + 1) = hS m i r w := by simp only [al, hw, Bool.true_and]
    simp (disch := omega) only [f_X4_sentHold_L3, h.1.2.2.1, hc.1, h.2.1.2.1, h.2.1.2.2.1, h.2.1.2.2.2.1, h.2.1.2.2.2.2.1, lit, nI_add, pk_mul, pk_sub, nI_clamp, inb_nI, nI_leI, nI_ltI, nI_eq, add_m1, ↓reduceIte, grd_true, nm_d, jn_d, bd_some, bm_some, om_some, om_none, h3, csent_eq h hi (show w < 4 by omega), bI_0, e, k2]
    cases h5 : snt m i w with
    | true =>
      rw [if_neg (by decide)]
      cases h6 : hld m w r with
      | false =>
        have h7 : hS m i r w = false := by simp [hS, h5, h6]
        rw [if_pos rfl, al_f h7 (by omega)]
        rfl
      | true =>
        rw [if_neg (by decide)]
        exact ih (w + 1) n (by omega) (by omega) (by rw [e2]; simp [hS, h6])
    | false =>
      rw [if_pos rfl]
      exact ih (w + 1) n (by omega) (by omega) (by rw [e2]; simp [hS, h5])
theorem sentHold_eq (hfu : 5000 ≤ fu) (h : DR M m) (hG : DG m nS nL nC nO) {a p : Nat} (hi : i < 3) (hR : RC M a R) (hr : R[p]? = some r) (hok : ∀ c, c < 4 → okc (cel r c)) : f_X4_sentHold fu (nI i) a (nI p) M = some (bI (al (hS m i r) nC)) := sentHoldL h hG hi hR hr hok nC 0 fu (by omega) (by have := hG.2.2.1.2; omega) rfl
theorem holdSentL (hG : DG m nS nL nC nO) {s p : Nat} (hi : i < 3) (hs : m 19 i = nI s) (hs6 : s < 6) (hR : RM m s R) (hr : R[p]? = some r) (hok : ∀ c, c < 4 → okc (cel r c)) : ∀ d w n, w + d = nC → d < n → f_X11_holdSent_L5 fu (nI i) (nI p) m n (bI (al (hS m i r) w)) (nI w) = some (bI (al (hS m i r) nC)) := by
  have hc := hG.2.2.1
  have hl := gl_lt hr
  have h12 := hR.2.1
  intro d
  induction d with
  | zero =>
    intro w n h1 h2
    obtain ⟨n, rfl⟩ := fu1 h2
    obtain rfl : w = nC := by omega
    simp (disch := omega) only [f_X11_holdSent_L5, hc.1, lit, nI_add, pk_mul, pk_sub, nI_clamp, inb_nI, nI_leI, nI_ltI, nI_eq, add_m1, ↓reduceIte, grd_true, nm_d, jn_d, bd_some, bm_some, om_some, om_none, Nat.le_refl, isb_bI]
  | succ d ih =>
    intro w n h1 h2
    obtain ⟨n, rfl⟩ := fu1 h2
    have h3 : ¬ nC ≤ w := by omega
    obtain ⟨k1, k2, k3, k4⟩ := hld_eq hG (show w < nC by omega) hok
    have e := hR.cell hr k3
    have hbd : 4 * (12 * s + p) + (m 25 w).toNatClampNeg < 288 := by omega
    have ix : nI 4 * (nI 12 * nI s + nI p) + m 25 w = nI (4 * (12 * s + p) + (m 25 w).toNatClampNeg) := by
      rw [pk_mul, nI_add, pk_mul]
      rw [k4, nI_add, nI_clamp (by omega)]
    have h4 := ih (w + 1) n (by omega) (by omega)
    simp only [al] at h4
    generalize (m 25 w).toNatClampNeg = c at *
    simp (disch := omega) only [f_X11_holdSent_L5, hc.1, lit, nI_leI, inb_nI, grd_true, nI_clamp, nm_d, jn_d, h3, ↓reduceIte, hs, ix, sent_eq hi (show w < 4 by omega), bd_some, bI_0, e, k1, nI_add]
    cases h5 : al (hS m i r) w with
    | false =>
      rw [if_pos rfl]
      rw [h5] at h4
      exact h4
    | true =>
      rw [if_neg (by decide)]
      rw [h5] at h4
      simp only [hS] at h4
      cases h6 : snt m i w with
      | false =>
        rw [if_pos rfl]
        rw [h6] at h4
        exact h4
      | true =>
        rw [if_neg (by decide)]
        rw [h6] at h4
        cases h7 : hld m w r with
        | false =>
          rw [if_pos rfl]
          rw [h7] at h4
          exact h4
        | true =>
          rw [if_neg (by decide)]
          rw [h7] at h4
          exact h4
theorem holdSent_eq (hfu : 5000 ≤ fu) (hG : DG m nS nL nC nO) {s p : Nat} (hi : i < 3) (hs : m 19 i = nI s) (hs6 : s < 6) (hR : RM m s R) (hr : R[p]? = some r) (hok : ∀ c, c < 4 → okc (cel r c)) : f_X11_holdSent fu (nI i) (nI p) m = some (bI (al (hS m i r) nC)) := holdSentL hG hi hs hs6 hR hr hok nC 0 fu (by omega) (by have := hG.2.2.1.2; omega)
/-! the rows of a seat of the reference -/
def RS (m : Mem) (i : Nat) (R : List Row) : Prop := m 43 i = nI R.length ∧ R.length ≤ 12 ∧ RV (off (m 44) (12 * i)) (off (m 45) (48 * i)) R
theorem RS.mark (h : RS m i R) {p : Nat} (hr : R[p]? = some r) : m 44 (12 * i + p) = r.1 := (h.2.2 p r hr).1
theorem RS.cell (h : RS m i R) {p c : Nat} (hr : R[p]? = some r) (hc : c < 4) : m 45 (4 * (12 * i + p) + c) = cel r c := by
  rw [← (h.2.2 p r hr).2 c hc, off]
  congr 1
  omega
theorem RS.cg {n : Mem} (h : RS m i R) (h0 : n 43 i = m 43 i) (h1 : n 44 = m 44) (h2 : n 45 = m 45) : RS n i R := ⟨by rw [h0]; exact h.1, h.2.1, by rw [h1, h2]; exact h.2.2⟩
theorem holdHereL (hG : DG m nS nL nC nO) {p : Nat} (hi : i < 3) (hR : RS m i R) (hr : R[p]? = some r) (hok : ∀ c, c < 4 → okc (cel r c)) : ∀ d w n, w + d = nC → d < n → f_X11_holdHere_L5 fu (nI i) (nI p) m n (bI (al (hA m i r) w)) (nI w) = some (bI (al (hA m i r) nC)) := by
  have hc := hG.2.2.1
  have hl := gl_lt hr
  have h12 := hR.2.1
  intro d
  induction d with
  | zero =>
    intro w n h1 h2
    obtain ⟨n, rfl⟩ := fu1 h2
    obtain rfl : w = nC := by omega
    simp (disch := omega) only [f_X11_holdHere_L5, hc.1, lit, nI_add, pk_mul, pk_sub, nI_clamp, inb_nI, nI_leI, nI_ltI, nI_eq, add_m1, ↓reduceIte, grd_true, nm_d, jn_d, bd_some, bm_some, om_some, om_none, Nat.le_refl, isb_bI]
  | succ d ih =>
    intro w n h1 h2
    obtain ⟨n, rfl⟩ := fu1 h2
    have h3 : ¬ nC ≤ w := by omega
    obtain ⟨k1, k2, k3, k4⟩ := hld_eq hG (show w < nC by omega) hok
    have e := hR.cell hr k3
    have hbd : 4 * (12 * i + p) + (m 25 w).toNatClampNeg < 144 := by omega
    have ix : nI 4 * (nI 12 * nI i + nI p) + m 25 w = nI (4 * (12 * i + p) + (m 25 w).toNatClampNeg) := by
      rw [pk_mul, nI_add, pk_mul]
      rw [k4, nI_add, nI_clamp (by omega)]
    have h4 := ih (w + 1) n (by omega) (by omega)
    simp only [al] at h4
    generalize (m 25 w).toNatClampNeg = c at *
    simp (disch := omega) only [f_X11_holdHere_L5, hc.1, lit, nI_leI, inb_nI, grd_true, nI_clamp, nm_d, jn_d, h3, ↓reduceIte, ix, bd_some, bI_0, e, k1, nI_add]
    cases h5 : al (hA m i r) w with
    | false =>
      rw [if_pos rfl]
      rw [h5] at h4
      exact h4
    | true =>
      rw [if_neg (by decide)]
      rw [h5] at h4
      simp only [hA] at h4
      by_cases h6 : m 24 w = nI i
      · rw [if_pos h6]
        simp only [h6, decide_true] at h4
        cases h7 : hld m w r with
        | false =>
          rw [if_pos rfl]
          rw [h7] at h4
          exact h4
        | true =>
          rw [if_neg (by decide)]
          rw [h7] at h4
          exact h4
      · rw [if_neg h6]
        simp only [h6, decide_false] at h4
        exact h4
theorem holdHere_eq (hfu : 5000 ≤ fu) (hG : DG m nS nL nC nO) {p : Nat} (hi : i < 3) (hR : RS m i R) (hr : R[p]? = some r) (hok : ∀ c, c < 4 → okc (cel r c)) : f_X11_holdHere fu (nI i) (nI p) m = some (bI (al (hA m i r) nC)) := holdHereL hG hi hR hr hok nC 0 fu (by omega) (by have := hG.2.2.1.2; omega)
end Draft
