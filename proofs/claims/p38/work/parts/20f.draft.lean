/-! ===== the law's draft, and what it says of rows ===== -/
def DL (M m : Mem) (nS nL nC nO : Nat) : Prop := (M 146 0 = nI nS ∧ M 146 1 = nI nL ∧ M 146 2 = nI nC ∧ M 146 3 = nI nO ∧ M 146 4 = m 0 37 ∧ M 146 5 = m 0 38 ∧ ∃ k, 1 ≤ k ∧ k ≤ 20 ∧ m 0 37 = nI k)
  ∧ (∀ i, i < nS → M 146 (6 + i) = m 19 i)
  ∧ (∀ l, l < nL → M 146 (9 + 4 * l) = m 20 l ∧ M 146 (10 + 4 * l) = m 21 l ∧ M 146 (11 + 4 * l) = m 22 l ∧ M 146 (12 + 4 * l) = m 23 l)
  ∧ (∀ w, w < nC → M 146 (21 + 4 * w) = m 24 w ∧ M 146 (22 + 4 * w) = m 25 w ∧ M 146 (23 + 4 * w) = m 26 w ∧ M 146 (24 + 4 * w) = m 27 w ∧ (∃ k, k ≤ 4 ∧ m 26 w = nI k) ∧ -999 ≤ m 27 w ∧ m 27 w ≤ 999)
  ∧ (∀ o, o < nO → M 146 (37 + 2 * o) = m 28 o ∧ M 146 (38 + 2 * o) = m 29 o)
section DraftL
variable {fu i j s w nS nL nC nO : Nat} {M m N n : Mem} {R : List Row} {r : Row} {v : Int32}
theorem DL.cg (h : DL M m nS nL nC nO) (h1 : N 146 = M 146) (h2 : ∀ a, 19 ≤ a → a ≤ 29 → n a = m a) (h3 : n 0 37 = m 0 37) (h4 : n 0 38 = m 0 38) : DL N n nS nL nC nO := by
  obtain ⟨a, b, c, d, e⟩ := h
  refine ⟨by rw [h1, h3, h4]; exact a, fun i hi => by rw [h1, h2 19 (by omega) (by omega)]; exact b i hi, fun l hl => by rw [h1, h2 20 (by omega) (by omega), h2 21 (by omega) (by omega), h2 22 (by omega) (by omega), h2 23 (by omega) (by omega)]; exact c l hl, fun w hw => by rw [h1, h2 24 (by omega) (by omega), h2 25 (by omega) (by omega), h2 26 (by omega) (by omega), h2 27 (by omega) (by omega)]; exact d w hw, fun o ho => by rw [h1, h2 28 (by omega) (by omega), h2 29 (by omega) (by omega)]; exact e o ho⟩
theorem ldone {s c k : Nat} (hs : s < 6) (hc : c < 4) (hk : k ≤ 4) : (f_L_done (nI s / 2) (nI c) (nI k) = 0) = (f_X10_canDo (f_X10_storeOf (nI s)) (nI c) (nI k) = 0) := by
  rw [sto hs, show nI s / 2 = nI (s / 2) from pk_div (d := 2) (by omega) (by omega) (by omega)]
  have h1 : s / 2 = 0 ∨ s / 2 = 1 ∨ s / 2 = 2 := by omega
  have h2 : c = 0 ∨ c = 1 ∨ c = 2 ∨ c = 3 := by omega
  have h3 : k = 0 ∨ k = 1 ∨ k = 2 ∨ k = 3 ∨ k = 4 := by omega
  rcases h1 with e | e | e <;> rw [e] <;> rcases h2 with rfl | rfl | rfl | rfl <;> rcases h3 with rfl | rfl | rfl | rfl | rfl <;> decide
theorem lsent_eq (hfu : 5000 ≤ fu) (h : DL M m nS nL nC nO) (hG : DG m nS nL nC nO) (hi : i < nS) (hw : w < nC) : f_L_sent fu (nI w) (nI i) M = some (bI (snt m i w)) := by
  have hS := hG.1.2
  have hC := hG.2.2.1.2
  obtain ⟨a1, a2, a3, a4, ⟨k, k1, k2⟩, _, _⟩ := h.2.2.2.1 w hw
  obtain ⟨s, s1, s2⟩ := hG.src hi
  obtain ⟨a, c, c1, c2, c3, c4, _⟩ := hG.2.2.2.2.2.2.2.2.1 w hw
  have e1 : (21 : Int32) + 4 * nI w = nI (21 + 4 * w) := by rw [show (4 : Int32) = nI 4 from rfl, show (21 : Int32) = nI 21 from rfl, pk_mul, nI_add]
  have e2 : (22 : Int32) + 4 * nI w = nI (22 + 4 * w) := by rw [show (4 : Int32) = nI 4 from rfl, show (22 : Int32) = nI 22 from rfl, pk_mul, nI_add]
  have e3 : (23 : Int32) + 4 * nI w = nI (23 + 4 * w) := by rw [show (4 : Int32) = nI 4 from rfl, show (23 : Int32) = nI 23 from rfl, pk_mul, nI_add]
  have e4 : (6 : Int32) + nI i = nI (6 + i) := nI_add 6 i
  have hd := ldone (s := s) (c := c) (k := k) s1 c4 k1
  simp (disch := omega) only [f_L_sent, e1, e2, e3, e4, inb_nI, grd_true, nI_clamp, a1, a2, a3, h.2.1 i hi, s2, c2, k2, hd]
  simp only [snt, s2, c2, k2]
  by_cases z : m 24 w = nI i
  · by_cases z2 : f_X10_canDo (f_X10_storeOf (nI s)) (nI c) (nI k) = 0
    · simp [z, z2, bI]
    · simp [z, z2, bI]
  · simp [z, bI]
theorem lholds {k : Nat} (hk : k ≤ 4) {x : Int32} (hv : okc v) (hx : -999 ≤ x ∧ x ≤ 999) : (f_L_holds (nI k) x v = 0) = (f_X10_holdsFor (nI k) x v = 0) := by
  have e5 : (f_L_isNumber v = 0) = (v = 5000 ∨ v = 5001) := by
    unfold f_L_isNumber
    rcases hv with rfl | rfl | ⟨h1, h2⟩
    · simp
    · simp
    · have : ¬ v < -999 := by grind
      have h3 : ¬ 999 < v := by grind
      have h4 : ¬ (v = 5000 ∨ v = 5001) := by grind
      simp [this, h3, h4]
  have h3 : k = 0 ∨ k = 1 ∨ k = 2 ∨ k = 3 ∨ k = 4 := by omega
  simp only [f_L_holds, f_X10_holdsFor, e5, num0]
  rcases h3 with rfl | rfl | rfl | rfl | rfl
  all_goals simp (decide := true) only [if_true, if_false]
  all_goals grind
/-- whether conditions hold: those that are sent, or all -/
def hW (m : Mem) (i : Nat) (r : Row) (all : Bool) (w : Nat) : Bool := if all then hA m i r w else hS m i r w
theorem lholdL (hfu : 5000 ≤ fu) (h : DL M m nS nL nC nO) (hG : DG m nS nL nC nO) (hi : i < nS) (hm : okm r.1) (hr : ∀ c, c < 4 → okc (cel r c)) {all : Bool} : ∀ d w n, w + d = nC → d < n → al (hW m i r all) w = true → f_L_hold_L3 fu (nI i) (pk r) (bI all) M n (nI w) = some (bI (al (hW m i r all) nC)) := by
  have hC := hG.2.2.1.2
  intro d
  induction d with
  | zero =>
    intro w n h1 h2 h3
    obtain ⟨n, rfl⟩ := fu1 h2
    obtain rfl : w = nC := by omega
    simp (disch := omega) only [f_L_hold_L3, h.1.2.2.1, nI_leI, Nat.le_refl, if_true, h3, bI]
  | succ d ih =>
    intro w n h1 h2 h3
    obtain ⟨n, rfl⟩ := fu1 h2
    have h4 : ¬ nC ≤ w := by omega
    obtain ⟨a1, a2, a3, a4, ⟨k, k1, k2⟩, x1, x2⟩ := h.2.2.2.1 w (by omega)
    obtain ⟨a, c, c1, c2, c3, c4, _⟩ := hG.2.2.2.2.2.2.2.2.1 w (by omega)
    have e1 : (21 : Int32) + 4 * nI w = nI (21 + 4 * w) := by rw [show (4 : Int32) = nI 4 from rfl, show (21 : Int32) = nI 21 from rfl, pk_mul, nI_add]
    have e2 : (22 : Int32) + 4 * nI w = nI (22 + 4 * w) := by rw [show (4 : Int32) = nI 4 from rfl, show (22 : Int32) = nI 22 from rfl, pk_mul, nI_add]
    have e3 : (23 : Int32) + 4 * nI w = nI (23 + 4 * w) := by rw [show (4 : Int32) = nI 4 from rfl, show (23 : Int32) = nI 23 from rfl, pk_mul, nI_add]
    have e4 : (24 : Int32) + 4 * nI w = nI (24 + 4 * w) := by rw [show (4 : Int32) = nI 4 from rfl, show (24 : Int32) = nI 24 from rfl, pk_mul, nI_add]
    have hh : (f_L_holds (m 26 w) (m 27 w) (f_L_at (pk r) (m 25 w)) = 0) = (hld m w r = false) := by
      rw [c2, at_pk hm hr c4, k2, lholds k1 (hr c c4) ⟨x1, x2⟩]
      simp only [hld, c2, k2, nI_clamp (show c < 2 ^ 31 by omega)]
      simp
    have al1 : al (hW m i r all) (w + 1) = hW m i r all w := by simp only [al, h3, Bool.true_and]
    have hse := lsent_eq hfu h hG hi (show w < nC by omega)
    simp (disch := omega) only [f_L_hold_L3, h.1.2.2.1, nI_leI, h4, if_false, e1, e2, e3, e4, inb_nI, grd_true, nI_clamp, a1, a2, a3, a4, jn_d, nm_d, nI_1, hh, hse, bd_some, bI_nz]
    have go : hW m i r all w = true → f_L_hold_L3 fu (nI i) (pk r) (bI all) M n (nI (w + 1)) = some (bI (al (hW m i r all) nC)) := fun z => ih (w + 1) n (by omega) (by omega) (by rw [al1]; exact z)
    have no : hW m i r all w = false → (some 0 : Option Int32) = some (bI (al (hW m i r all) nC)) := fun z => by rw [al_f z (by omega)]; rfl
    by_cases z1 : m 24 w = nI i
    · rw [if_pos z1]
      cases all with
      | true =>
        rw [if_neg (by decide)]
        cases z3 : hld m w r with
        | false => rw [if_pos rfl]; exact no (by simp [hW, hA, z1, z3])
        | true => rw [if_neg (by decide)]; exact go (by simp [hW, hA, z3])
      | false =>
        rw [if_pos rfl]
        cases z2 : snt m i w with
        | false => rw [if_pos rfl]; exact go (by simp [hW, hS, z2])
        | true =>
          rw [if_neg (by decide)]
          cases z3 : hld m w r with
          | false => rw [if_pos rfl]; exact no (by simp [hW, hS, z2, z3])
          | true => rw [if_neg (by decide)]; exact go (by simp [hW, hS, z3])
    · rw [if_neg z1]
      exact go (by cases all <;> simp [hW, hA, hS, snt, z1])
theorem lhold_eq (hfu : 5000 ≤ fu) (h : DL M m nS nL nC nO) (hG : DG m nS nL nC nO) (hi : i < nS) (hm : okm r.1) (hr : ∀ c, c < 4 → okc (cel r c)) {all : Bool} : f_L_hold fu (nI i) (pk r) (bI all) M = some (bI (al (hW m i r all) nC)) := lholdL hfu h hG hi hm hr nC 0 fu (by omega) (by have := hG.2.2.1.2; omega) rfl
/-! fees, guesses -/
theorem lfee (hs : s < 6) : f_L_fee (nI s / 2) = fee (s / 2) ∧ f_L_freight (nI s / 2) = freight (s / 2) := by
  rw [show nI s / 2 = nI (s / 2) from pk_div (d := 2) (by omega) (by omega) (by omega)]
  have h1 : s / 2 = 0 ∨ s / 2 = 1 ∨ s / 2 = 2 := by omega
  rcases h1 with e | e | e <;> rw [e] <;> decide
end DraftL
