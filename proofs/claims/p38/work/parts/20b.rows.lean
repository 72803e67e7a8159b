/-! ===== the law's rows ===== -/
def okW (R : List Row) : Prop := ∀ r ∈ R, okm r.1 ∧ ∀ c, c < 4 → okc (cel r c)
/-- the rows of a block of ten longs -/
def RWa (M : Mem) (a0 a1 s : Nat) (R : List Row) : Prop := M a1 s = nI R.length ∧ R.length ≤ 10 ∧ ∀ i r, R[i]? = some r → lg (M a0) (10 * s + i) = pk r
abbrev RWl (M : Mem) (s : Nat) (R : List Row) : Prop := RWa M 142 143 s R
section LRows
variable {fu s s' a0 a1 l0 l1 : Nat} {M N : Mem} {R R' : List Row} {r : Row} {m v : Int32}
theorem upL_s {i j : Nat} {x : Int64} : lg (upL M i j x i) j = x := by
  simp only [upL, row_s, lg_updL]
  exact pk_uLs
theorem upL_m {i j k : Nat} {x : Int64} (h : k ≠ j) : lg (upL M i j x i) k = lg (M i) k := by
  simp only [upL, row_s, lg_updL]
  exact pk_uLn h
theorem upL_n {i j a : Nat} {x : Int64} (h : a ≠ i) : upL M i j x a = M a := by simp [upL, row, h]
theorem RWa.cg (h : RWa M a0 a1 s R) (h0 : N a1 s = M a1 s) (h1 : ∀ i, i < 10 → lg (N a0) (10 * s + i) = lg (M a0) (10 * s + i)) : RWa N a0 a1 s R := ⟨by rw [h0]; exact h.1, h.2.1, fun i r hr => by rw [h1 i (by have := gl_lt hr; have := h.2.1; omega)]; exact h.2.2 i r hr⟩
theorem RWa.cg2 (h : RWa M a0 a1 s R) (h0 : N a1 = M a1) (h1 : N a0 = M a0) : RWa N a0 a1 s R := h.cg (by rw [h0]) (fun _ _ => by rw [h1])
theorem okW.at (h : okW R) {i : Nat} (hr : R[i]? = some r) : okm r.1 ∧ ∀ c, c < 4 → okc (cel r c) := h r (List.mem_of_getElem? hr)
theorem markL (h : RWa M a0 a1 s R) (hk : okW R) {i : Nat} (hr : R[i]? = some r) : f_L_markOf (lg (M a0) (10 * s + i)) = r.1 := by
  rw [h.2.2 i r hr]
  exact mark_pk (hk.at hr).1 (hk.at hr).2
theorem atL (h : RWa M a0 a1 s R) (hk : okW R) {i c : Nat} (hr : R[i]? = some r) (hc : c < 4) : f_L_at (lg (M a0) (10 * s + i)) (nI c) = cel r c := by
  rw [h.2.2 i r hr]
  exact at_pk (hk.at hr).1 (hk.at hr).2 hc
theorem lplaceL (h : RWl M s R) (hs : s < 6) (hk : okW R) : ∀ k i n, i + k = R.length → k < n → f_L_place_L3 fu (nI s) m M n (nI i) = some (oI (((R.drop i).findIdx? (fun r => r.1 == m)).map (i + ·))) := by
  have h12 := h.2.1
  intro k
  induction k with
  | zero =>
    intro i n h1 h2
    obtain ⟨n, rfl⟩ := fu1 h2
    have h3 : R.length ≤ i := by omega
    simp (disch := omega) only [f_L_place_L3, h.1, lit, nI_add, pk_mul, pk_sub, nI_clamp, inb_nI, nI_leI, nI_ltI, nI_eq, add_m1, ↓reduceIte, grd_true, nm_d, jn_d, bd_some, bm_some, om_some, om_none, h3, List.drop_eq_nil_of_le h3, List.findIdx?_nil, Option.map_none, oI]
  | succ k ih =>
    intro i n h1 h2
    obtain ⟨n, rfl⟩ := fu1 h2
    have h3 : ¬ R.length ≤ i := by omega
    obtain ⟨r, hr⟩ := gl_some (R := R) (i := i) (by omega)
    rw [fst_drop hr]
    simp (disch := omega) only [f_L_place_L3, h.1, lit, nI_add, pk_mul, pk_sub, nI_clamp, inb_nI, nI_leI, nI_ltI, nI_eq, add_m1, ↓reduceIte, grd_true, nm_d, jn_d, bd_some, bm_some, om_some, om_none, h3, markL h hk hr]
    by_cases hm : r.1 = m
    · simp only [hm, ↓reduceIte, Option.map_some, oI, Nat.add_zero]
    · simp only [hm, ↓reduceIte]
      rw [ih (i + 1) n (by omega) (by omega), Option.map_map]
      congr 3
      funext x
      simp only [Function.comp]
      omega
theorem lplace_eq (hfu : 5000 ≤ fu) (h : RWl M s R) (hs : s < 6) (hk : okW R) : f_L_place fu (nI s) m M = some (oI (fst R m)) := by
  have h12 := h.2.1
  simp only [f_L_place, lit]
  rw [lplaceL h hs hk R.length 0 fu (by omega) (by omega)]
  simp only [List.drop_zero, fst]
  congr 2
  cases R.findIdx? (fun r => r.1 == m) <;> simp
theorem oIneg (hR : R.length ≤ 12) : (oI (fst R m) < 0) = (fst R m = none) := by
  cases h : fst R m with
  | none => exact propext ⟨fun _ => rfl, fun _ => by show -nI 1 < 0; decide⟩
  | some p =>
    have h1 := fst_b (v := m) hR p h
    simp only [oI]
    exact propext ⟨fun z => absurd z (nI_pos h1), fun z => by cases z⟩
theorem oIpos (hR : R.length ≤ 12) : ((0 : Int32) ≤ oI (fst R m)) = (fst R m ≠ none) := by
  have h1 := oIneg (m := m) hR
  rw [← Int32.not_lt, h1]
/-! what can be in a column -/
theorem lcol (hs : s < 6) : f_L_columns (nI s) = nI (cs s) := by
  have e : nI s / 2 = nI (s / 2) := pk_div (d := 2) (by omega) (by omega) (by omega)
  have e2 : (nI (s / 2) = 1) = (s / 2 = 1) := by rw [show (1 : Int32) = nI 1 from rfl, nI_eq (by omega) (by omega)]
  simp only [f_L_columns, cs, e, e2]
  split <;> rfl
theorem lcan {c : Nat} (hs : s < 6) (hc : c < 4) : f_L_can (nI s) (nI c) v = f_X11_isCell (nI s) (nI c) v := by
  have h2 : c = 0 ∨ c = 1 ∨ c = 2 ∨ c = 3 := by omega
  revert hs
  revert s
  intro s hs
  refine lt6 (P := fun s => f_L_can (nI s) (nI c) v = f_X11_isCell (nI s) (nI c) v) ?_ ?_ ?_ ?_ ?_ ?_ hs <;> rcases h2 with rfl | rfl | rfl | rfl <;>
    simp (decide := true) only [f_L_can, f_L_isNumber, f_X11_isCell, f_X11_isColumn, f_X11_storeOf, f_X11_in, f_X11_isNumber, jn_d, nm_d] <;> grind
theorem laddable {a b c d : Int32} {RR : Nat → List Row} {n : Mem} (hfu : 5000 ≤ fu) (h : RWl M s (RR s)) (hs : s < 6) (hk : okW (RR s)) (hf : M 153 (6 + s) = n 4 s ∨ ¬ s < 2) :
    (¬ fit s a b c d → f_L_addable fu (nI s) a b c d M = some (-7200)) ∧ (fit s a b c d → ¬ rm n RR s a → f_L_addable fu (nI s) a b c d M = some (-7300)) ∧ (fit s a b c d → rm n RR s a → f_L_addable fu (nI s) a b c d M = some 0) := by
  have h12 := h.2.1
  have ep := lplace_eq (m := a) hfu h hs hk
  have eo := oIpos (m := a) (R := RR s) (by omega)
  have hle1 : (nI s ≤ 1) = (s < 2) := by
    rw [show (1 : Int32) = nI 1 from rfl, nI_leI (by omega) (by omega)]
    exact propext (by omega)
  have hle2 : ((2 : Int32) ≤ nI s) = ¬ (s < 2) := by
    rw [show (2 : Int32) = nI 2 from rfl, nI_leI (by omega) (by omega)]
    exact propext (by omega)
  have e12 : (M 143 s = 12) = ((RR s).length = 12) := by rw [h.1, show (12 : Int32) = nI 12 from rfl, nI_eq (by omega) (by omega)]
  have e0 : f_L_can (nI s) 0 a = f_X11_isCell (nI s) 0 a := lcan (c := 0) hs (by omega)
  have e1 : f_L_can (nI s) 1 b = f_X11_isCell (nI s) 1 b := lcan (c := 1) hs (by omega)
  have e2 : f_L_can (nI s) 2 c = f_X11_isCell (nI s) 2 c := lcan (c := 2) hs (by omega)
  have e3 : f_L_can (nI s) 3 d = f_X11_isCell (nI s) 3 d := lcan (c := 3) hs (by omega)
  have key : f_L_addable fu (nI s) a b c d M = if f_X11_isCell (nI s) 0 a = 0 then some (-7200) else if f_X11_isCell (nI s) 1 b = 0 then some (-7200) else if f_X11_isCell (nI s) 2 c = 0 then some (-7200) else if f_X11_isCell (nI s) 3 d = 0 then some (-7200) else if (RR s).length = 12 then some (-7300) else (if s < 2 then (if n 4 s = nI 60 then some (-7300) else some 0) else (if fst (RR s) a = none then some 0 else some (-7300))) := by
    simp only [f_L_addable, e0, e1, e2, e3]
    by_cases z2 : s < 2
    · have hf' : M 153 (6 + s) = n 4 s := hf.resolve_right (fun h => h z2)
      simp (disch := omega) only [inb_nI, grd_true, nI_clamp, e12, jn_d, hle1, hle2, z2, not_true, if_true, if_false, show (6 : Int32) + nI s = nI (6 + s) from nI_add 6 s, hf', show (60 : Int32) = nI 60 from rfl]
    · simp (disch := omega) only [inb_nI, grd_true, nI_clamp, e12, jn_d, hle1, hle2, z2, not_false_iff, if_true, if_false, ep, bd_some, eo]
      by_cases z4 : fst (RR s) a = none <;> simp only [z4, ne_eq, not_true, not_false_iff, if_true, if_false]
  rw [key]
  have hl : (RR s).length < 12 := by omega
  have hl' : ¬ (RR s).length = 12 := by omega
  simp only [fit, rm, hl, hl', if_false, true_and]
  generalize f_X11_isCell (nI s) 0 a = y0
  generalize f_X11_isCell (nI s) 1 b = y1
  generalize f_X11_isCell (nI s) 2 c = y2
  generalize f_X11_isCell (nI s) 3 d = y3
  by_cases w0 : y0 = 0
  · simp [w0]
  by_cases w1 : y1 = 0
  · simp [w0, w1]
  by_cases w2 : y2 = 0
  · simp [w0, w1, w2]
  by_cases w3 : y3 = 0
  · simp [w0, w1, w2, w3]
  by_cases z2 : s < 2 <;> by_cases z3 : n 4 s = nI 60 <;> by_cases z4 : fst (RR s) a = none <;> simp [z2, z3, z4, w0, w1, w2, w3]
/-! what KEYS keep -/
theorem lkept (hs : s < 6) {c : Nat} (hc4 : c < 4) (hc : s / 2 = 1 → c = 1) (hv : okc v) : f_L_kept fu (nI s) (nI c) v M = some (stv s v, up M 152 2 (M 152 2 + lo s v)) := by
  have e1 : (nI s / 2 = 1) = (s / 2 = 1) := by
    rw [show (2 : Int32) = nI 2 from rfl, pk_div (by omega) (by omega) (by omega), show (1 : Int32) = nI 1 from rfl, nI_eq (by omega) (by omega)]
  have z : ∀ w : Int32, up M 152 2 (M 152 2 + 0) = M := fun _ => by rw [Int32.add_zero]; exact up_self rfl
  simp only [f_L_kept, e1, jn_d]
  by_cases h : s / 2 = 1
  · have hc1 := hc h
    subst hc1
    have e2 : (nI 1 = 1) = True := by simp [nI]
    have e5 : f_L_isNumber v = if v = 5000 ∨ v = 5001 then 0 else 1 := by
      unfold f_L_isNumber
      rcases hv with rfl | rfl | ⟨h1, h2⟩
      · decide
      · decide
      · have : ¬ v < -999 := by grind
        have h3 : ¬ 999 < v := by grind
        have h4 : ¬ (v = 5000 ∨ v = 5001) := by grind
        simp only [this, h3, h4, if_false]
    simp only [h, e2, if_true, stv, lo, true_and, nm_d]
    by_cases h5 : v = 5000 ∨ v = 5001
    · have h6 : ¬ (v ≠ 5000 ∧ v ≠ 5001) := by rcases h5 with rfl | rfl <;> simp
      simp only [e5, h5, h6, if_true, if_false, z v]
    · have h6 : v ≠ 5000 ∧ v ≠ 5001 := ⟨fun e => h5 (Or.inl e), fun e => h5 (Or.inr e)⟩
      have e5' : f_L_isNumber v = 1 := by rw [e5, if_neg h5]
      simp only [e5', h6, if_false, i10, ne_eq, not_false_iff, and_self, if_true]
      by_cases h7 : v < 0
      · have h8 : ¬ (0 : Int32) = v := by grind
        have h9 : ¬ (0 : Int32) ≤ v := by grind
        simp only [h7, h8, h9, if_true, if_false]
      · have h9 : (0 : Int32) ≤ v := by grind
        by_cases h10 : v ≤ 99
        · have h11 : ¬ (99 : Int32) < v := by grind
          simp only [h7, h9, h10, h11, if_true, if_false, z v]
        · have h11 : (99 : Int32) < v := by grind
          have h12 : ¬ (99 : Int32) = v := by grind
          simp only [h7, h9, h10, h11, h12, if_true, if_false]
  · have e : stv s v = v := by simp [stv, h]
    simp only [h, if_false, lo, e, if_true, z v]
/-! a row is laid -/
def insW (M : Mem) (a0 a1 s : Nat) (R : List Row) (r : Row) (N : Mem) : Prop := RWa N a0 a1 s (insR R r) ∧ (∀ a, a ≠ a0 → a ≠ a1 → N a = M a) ∧ (∀ j, j ≠ s → N a1 j = M a1 j) ∧ ∀ j, (j < 10 * s ∨ 10 * s + 10 ≤ j) → lg (N a0) j = lg (M a0) j
end LRows
