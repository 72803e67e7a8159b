/-! ===== sources: what is put, changed, both ===== -/
def stv (s : Nat) (v : Int32) : Int32 := if s / 2 = 1 ∧ v ≠ 5000 ∧ v ≠ 5001 then (if v < 0 then 0 else if 99 < v then 99 else v) else v
def lo (s : Nat) (v : Int32) : Int32 := if stv s v = v then 0 else 1
def setc (r : Row) (c : Nat) (v : Int32) : Row := (r.1, (if c = 0 then v else r.2.1), (if c = 1 then v else r.2.2.1), (if c = 2 then v else r.2.2.2.1), (if c = 3 then v else r.2.2.2.2))
section SrcBase
variable {fu s a c : Nat} {M m : Mem} {v : Int32} {R : List Row} {r : Row}
theorem sto1 (hs : s < 6) : (f_X10_storeOf (nI s) = 1) = (s / 2 = 1) := propext (by rw [sto hs, lit, nI_eq (by omega) (by omega)])
theorem sto0 (hs : s < 6) : (f_X10_storeOf (nI s) = 0) = (s < 2) := propext (by rw [sto hs, lit, nI_eq (by omega) (by omega)]; omega)
theorem num0 : (f_X10_isNumber v = 0) = (v = 5000 ∨ v = 5001) := by
  simp only [f_X10_isNumber]
  grind
theorem stv_ok (h : okc v) : okc (stv s v) := by
  simp only [stv, okc] at *
  grind
theorem stv_fix (h : v = 5000 ∨ (0 ≤ v ∧ v ≤ 99)) : stv s v = v := by
  simp only [stv]
  grind
theorem stv_in (h : okc v) (h5 : v ≠ 5001) (hs : s / 2 = 1) : stv s v = 5000 ∨ (0 ≤ stv s v ∧ stv s v ≤ 99) := by
  simp only [stv, okc] at *
  grind
theorem asStored_eq (hs : s < 6) : f_X7_asStored fu (nI s) v M = some (stv s v, up M 57 6 (M 57 6 + lo s v)) := by
  have e0 : up M 57 6 (M 57 6 + 0) = M := up_self (by grind)
  simp only [f_X7_asStored, sto1 hs, num0, nm_d]
  by_cases h1 : s / 2 = 1
  · rw [if_pos h1]
    by_cases h2 : v = 5000 ∨ v = 5001
    · have h5 : stv s v = v := by simp only [stv]; rw [if_neg (fun h => by grind)]
      simp only [lo]
      rw [if_pos h2, if_pos h5, e0, h5]
    · have h4 : (if 0 < (if v < 99 then v else 99) then (if v < 99 then v else 99) else 0) = (if v < 0 then 0 else if 99 < v then 99 else v) := by grind
      have h5 : stv s v = (if v < 0 then 0 else if 99 < v then 99 else v) := by simp only [stv]; rw [if_pos ⟨h1, by grind, by grind⟩]
      rw [if_neg h2, h4, ← h5]
      by_cases h6 : stv s v = v
      · rw [if_pos h6]; simp only [lo]; rw [if_pos h6, e0]
      · rw [if_neg h6]; simp only [lo]; rw [if_neg h6]
  · rw [if_neg h1]
    have h5 : stv s v = v := by simp only [stv]; rw [if_neg (fun h => h1 h.1)]
    simp only [lo]
    rw [if_pos h5, h5, e0]
theorem kept_eq (hs : s < 6) (hc : s / 2 = 1 → c = 1) (hv : okc v) (hc4 : c < 4) : f_X11_kept fu (nI s) (nI c) v m = some (stv s v, up m 0 6 (m 0 6 + lo s v)) := by
  have e0 : up m 0 6 (m 0 6 + 0) = m := up_self (by grind)
  simp only [f_X11_kept, st_store, sto1 hs, nm_d, st_num hv, num0]
  by_cases h1 : s / 2 = 1
  · have h9 : nI c = 1 := by rw [hc h1]; rfl
    rw [if_pos h1, if_pos h9]
    by_cases h2 : v = 5000 ∨ v = 5001
    · have h5 : stv s v = v := by simp only [stv]; rw [if_neg (fun h => by grind)]
      simp only [lo]
      rw [if_pos h2, if_pos h5, e0, h5]
    · have h4 : (if 0 ≤ v then (if v ≤ 99 then v else 99) else 0) = (if v < 0 then 0 else if 99 < v then 99 else v) := by grind
      have h5 : stv s v = (if v < 0 then 0 else if 99 < v then 99 else v) := by simp only [stv]; rw [if_pos ⟨h1, by grind, by grind⟩]
      rw [if_neg h2, h4, ← h5]
      rfl
  · rw [if_neg h1]
    have h5 : stv s v = v := by simp only [stv]; rw [if_neg (fun h => h1 h.1)]
    simp only [lo]
    rw [if_pos h5, h5, e0]
theorem setc_at {k : Nat} (hc : c < 4) (hk : k < 4) : cel (setc r c v) k = if k = c then v else cel r k := by
  have h1 : c = 0 ∨ c = 1 ∨ c = 2 ∨ c = 3 := by omega
  have h2 : k = 0 ∨ k = 1 ∨ k = 2 ∨ k = 3 := by omega
  rcases h1 with rfl | rfl | rfl | rfl <;> rcases h2 with rfl | rfl | rfl | rfl <;> rfl
theorem RV_set {f g : Nat → Int32} {p : Nat} (h : RV f g R) (hp : R[p]? = some r) (hc : c < 4) : RV f (upd g (4 * p + c) v) (R.set p (setc r c v)) := by
  intro i r' hr
  rw [List.getElem?_set] at hr
  by_cases hi : p = i
  · subst hi
    rw [if_pos rfl, if_pos (gl_lt hp)] at hr
    cases hr
    obtain ⟨e1, e2⟩ := h p r hp
    refine ⟨by rw [e1]; rfl, fun k hk => ?_⟩
    rw [setc_at hc hk]
    simp only [upd]
    by_cases hkc : k = c
    · rw [if_pos (by omega), if_pos hkc]
    · rw [if_neg (by omega), if_neg hkc]; exact e2 k hk
  · rw [if_neg hi] at hr
    obtain ⟨e1, e2⟩ := h i r' hr
    refine ⟨e1, fun k hk => ?_⟩
    simp only [upd]
    rw [if_neg (by omega)]
    exact e2 k hk
theorem RC_set {p : Nat} (h : RC M a R) (hp : R[p]? = some r) (hc : c < 4) : RC (up M (a + 2) (4 * p + c) v) a (R.set p (setc r c v)) := by
  refine ⟨by rw [up_n (by omega), List.length_set]; exact h.1, by rw [List.length_set]; exact h.2.1, ?_⟩
  rw [up_n (by omega), up_r]
  exact RV_set h.2.2 hp hc
theorem RM_set {p : Nat} (h : RM m s R) (hp : R[p]? = some r) (hc : c < 4) : RM (up m 3 (4 * (12 * s + p) + c) v) s (R.set p (setc r c v)) := by
  refine ⟨by rw [up_n (by omega), List.length_set]; exact h.1, by rw [List.length_set]; exact h.2.1, ?_⟩
  rw [up_n (by omega), up_r, show 4 * (12 * s + p) + c = 48 * s + (4 * p + c) by omega, off_upd]
  exact RV_set h.2.2 hp hc
theorem RM_set' {s' p : Nat} {R' : List Row} (h : RM m s' R') (hs : s' ≠ s) (hp : p < 12) (hc : c < 4) : RM (up m 3 (4 * (12 * s + p) + c) v) s' R' := by
  have h12 := h.2.1
  refine ⟨by rw [up_n (by omega)]; exact h.1, h12, ?_⟩
  rw [up_n (by omega), up_r]
  refine h.2.2.cg (fun i hi => rfl) (fun i hi => ?_)
  simp only [off, upd]
  rw [if_neg (by omega)]
/-! ===== rows in order ===== -/
def SO (R : List Row) : Prop := ∀ (i j : Nat) (r r' : Row), R[i]? = some r → R[j]? = some r' → i < j → r.1 < r'.1
theorem SO.nd (h : SO R) : NDm R := fun i j r r' h1 h2 e => by
  rcases Nat.lt_trichotomy i j with h3 | h3 | h3
  · have := h i j r r' h1 h2 h3; rw [e] at this; grind
  · exact h3
  · have := h j i r' r h2 h1 h3; rw [e] at this; grind
theorem SO.tail (h : SO R) {p : Nat} : SO (R.eraseIdx p) := by
  intro i j r r' h1 h2 hij
  rw [List.getElem?_eraseIdx] at h1 h2
  split at h1
  · split at h2
    · exact h i j r r' h1 h2 hij
    · exact h i (j + 1) r r' h1 h2 (by omega)
  · split at h2
    · omega
    · exact h (i + 1) (j + 1) r r' h1 h2 (by omega)
theorem SO.set (h : SO R) {p : Nat} (hp : R[p]? = some r) : SO (R.set p (setc r c v)) := by
  intro i j r1 r2 h1 h2 hij
  rw [List.getElem?_set] at h1 h2
  have hl := gl_lt hp
  split at h1
  · subst p
    cases h1
    rw [if_neg (by omega)] at h2
    exact h i j r r2 hp h2 hij
  · split at h2
    · subst p
      cases h2
      exact h i j r1 r h1 hp hij
    · exact h i j r1 r2 h1 h2 hij
theorem pl_pre {f : Nat → Int32} {w : Int32} : ∀ n i, pl f w n ≤ i → i < n → ¬ f i ≤ w := by
  intro n
  induction n with
  | zero => intro i _ h; omega
  | succ n ih =>
    intro i h1 h2
    simp only [pl] at h1
    split at h1
    · omega
    · by_cases hi : i = n
      · subst hi; assumption
      · exact ih i h1 (by omega)
theorem pl_lt {f : Nat → Int32} {w : Int32} : ∀ n, 0 < pl f w n → f (pl f w n - 1) ≤ w := by
  intro n
  induction n with
  | zero => intro h; simp only [pl] at h; omega
  | succ n ih =>
    intro h
    simp only [pl] at h ⊢
    split
    · simpa using (by assumption)
    · rename_i hh; rw [if_neg hh] at h; exact ih h
theorem SO.ins (h : SO R) (hn : ∀ r' ∈ R, r'.1 ≠ r.1) : SO (insR R r) := by
  have hle := pl_le (f := mkf R) (m := r.1) (n := R.length)
  have lo : ∀ i r', R[i]? = some r' → i < pl (mkf R) r.1 R.length → r'.1 < r.1 := by
    intro i r' hr hi
    have h1 := pl_lt (f := mkf R) (w := r.1) R.length (by omega)
    obtain ⟨q, hq⟩ := gl_some (R := R) (i := pl (mkf R) r.1 R.length - 1) (by omega)
    rw [mkf_at hq] at h1
    have h2 := hn q (List.mem_of_getElem? hq)
    by_cases h3 : i = pl (mkf R) r.1 R.length - 1
    · rw [← h3, hr] at hq; cases hq; grind
    · have h4 := h i _ r' q hr hq (by omega); grind
  have hi : ∀ i r', R[i]? = some r' → pl (mkf R) r.1 R.length ≤ i → r.1 < r'.1 := by
    intro i r' hr hi
    have h1 := pl_pre (f := mkf R) (w := r.1) R.length i hi (gl_lt hr)
    rw [mkf_at hr] at h1
    grind
  intro i j r1 r2 h1 h2 hij
  simp only [insR] at h1 h2
  rw [List.getElem?_insertIdx] at h1 h2
  generalize pl (mkf R) r.1 R.length = p at *
  by_cases c1 : i < p
  · rw [if_pos c1] at h1
    by_cases c2 : j < p
    · rw [if_pos c2] at h2; exact h i j r1 r2 h1 h2 hij
    · rw [if_neg c2] at h2
      by_cases c3 : j = p
      · rw [if_pos c3, if_pos (by omega)] at h2; cases h2; exact lo i r1 h1 c1
      · rw [if_neg c3] at h2; exact h i (j - 1) r1 r2 h1 h2 (by omega)
  · rw [if_neg c1] at h1
    by_cases c2 : i = p
    · rw [if_pos c2, if_pos (by omega)] at h1; cases h1
      rw [if_neg (by omega), if_neg (by omega)] at h2
      exact hi (j - 1) r2 h2 (by omega)
    · rw [if_neg c2] at h1
      rw [if_neg (by omega), if_neg (by omega)] at h2
      exact h (i - 1) (j - 1) r1 r2 h1 h2 (by omega)
theorem mem_ins {r' : Row} (h : r' ∈ insR R r) : r' = r ∨ r' ∈ R := by
  simp only [insR] at h
  exact (List.mem_insertIdx pl_le).mp h
theorem fst_none {m : Int32} : fst R m = none ↔ ∀ r ∈ R, r.1 ≠ m := by
  simp [fst, List.findIdx?_eq_none_iff]
theorem fst_of (h : NDm R) {p : Nat} (hp : R[p]? = some r) : fst R r.1 = some p := by
  cases h1 : fst R r.1 with
  | none => exact absurd rfl (fst_none.mp h1 r (List.mem_of_getElem? hp))
  | some q =>
    obtain ⟨r', h2, h3⟩ := fst_lt h1
    rw [h q p r' r h2 hp h3]
/-- what was put in is taken out -/
theorem ins_del : (insR R r).eraseIdx (pl (mkf R) r.1 R.length) = R := by
  have hle := pl_le (f := mkf R) (m := r.1) (n := R.length)
  apply List.ext_getElem?
  intro i
  rw [List.getElem?_eraseIdx]
  simp only [insR]
  rw [List.getElem?_insertIdx, List.getElem?_insertIdx]
  split
  · rfl
  · rw [if_neg (by omega), if_neg (by omega)]
    rfl
theorem fst_ins (h : SO R) (hn : ∀ r' ∈ R, r'.1 ≠ r.1) : fst (insR R r) r.1 = some (pl (mkf R) r.1 R.length) := by
  have hle := pl_le (f := mkf R) (m := r.1) (n := R.length)
  refine fst_of (h.ins hn).nd ?_
  simp only [insR]
  rw [List.getElem?_insertIdx, if_neg (by omega), if_pos rfl, if_pos hle]
/-- what was taken out is put in again -/
theorem del_ins (h : SO R) {p : Nat} (hp : R[p]? = some r) : insR (R.eraseIdx p) r = R := by
  have hl := gl_lt hp
  have hlen : (R.eraseIdx p).length = R.length - 1 := by rw [List.length_eraseIdx, if_pos hl]
  have e : pl (mkf (R.eraseIdx p)) r.1 (R.eraseIdx p).length = p := by
    have a1 := pl_le (f := mkf (R.eraseIdx p)) (m := r.1) (n := (R.eraseIdx p).length)
    rcases Nat.lt_trichotomy (pl (mkf (R.eraseIdx p)) r.1 (R.eraseIdx p).length) p with h3 | h3 | h3
    · exfalso
      have h1 := pl_pre (f := mkf (R.eraseIdx p)) (w := r.1) (R.eraseIdx p).length (p - 1) (by omega) (by omega)
      obtain ⟨q, hq⟩ := gl_some (R := R) (i := p - 1) (by omega)
      have h2 : (R.eraseIdx p)[p - 1]? = some q := by rw [List.getElem?_eraseIdx, if_pos (by omega)]; exact hq
      rw [mkf_at h2] at h1
      have := h (p - 1) p q r hq hp (by omega)
      grind
    · exact h3
    · exfalso
      have h1 := pl_lt (f := mkf (R.eraseIdx p)) (w := r.1) (R.eraseIdx p).length (by omega)
      obtain ⟨q, hq⟩ := gl_some (R := R) (i := pl (mkf (R.eraseIdx p)) r.1 (R.eraseIdx p).length) (by omega)
      have h2 : (R.eraseIdx p)[pl (mkf (R.eraseIdx p)) r.1 (R.eraseIdx p).length - 1]? = some q := by rw [List.getElem?_eraseIdx, if_neg (by omega), Nat.sub_add_cancel (by omega)]; exact hq
      rw [mkf_at h2] at h1
      have := h p _ r q hp hq h3
      grind
  simp only [insR]
  rw [e]
  apply List.ext_getElem?
  intro i
  rw [List.getElem?_insertIdx]
  split
  · rw [List.getElem?_eraseIdx, if_pos (by omega)]
  · split
    · subst i; rw [if_pos (by omega), hp]
    · rw [List.getElem?_eraseIdx, if_neg (by omega), Nat.sub_add_cancel (by omega)]
theorem set_back {p : Nat} (hp : R[p]? = some r) (hc : c < 4) : (R.set p (setc r c v)).set p (setc (setc r c v) c (cel r c)) = R := by
  have e : setc (setc r c v) c (cel r c) = r := by
    have h1 : c = 0 ∨ c = 1 ∨ c = 2 ∨ c = 3 := by omega
    rcases h1 with rfl | rfl | rfl | rfl <;> rfl
  rw [e, List.set_set, set_self hp]
end SrcBase
