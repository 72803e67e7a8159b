/-! ===== rows: the lists that they are ===== -/
abbrev Row : Type := Int32 × Int32 × Int32 × Int32 × Int32
def cel (r : Row) (c : Nat) : Int32 := if c = 0 then r.2.1 else if c = 1 then r.2.2.1 else if c = 2 then r.2.2.2.1 else r.2.2.2.2
def RV (f g : Nat → Int32) (R : List Row) : Prop := ∀ i r, R[i]? = some r → f i = r.1 ∧ ∀ c, c < 4 → g (4 * i + c) = cel r c
def pu4 (g : Nat → Int32) (o : Nat) (r : Row) : Nat → Int32 := upd (upd (upd (upd g o r.2.1) (o + 1) r.2.2.1) (o + 2) r.2.2.2.1) (o + 3) r.2.2.2.2
def off (F : Nat → Int32) (o : Nat) : Nat → Int32 := fun i => F (o + i)
/-- the place of a mark: behind the last one that isn't greater -/
def pl (f : Nat → Int32) (m : Int32) : Nat → Nat
  | 0 => 0
  | n + 1 => if f n ≤ m then n + 1 else pl f m n
def mkf (R : List Row) : Nat → Int32 := fun i => (R[i]?.getD (0, 0, 0, 0, 0)).1
def insR (R : List Row) (r : Row) : List Row := R.insertIdx (pl (mkf R) r.1 R.length) r
section RowsV
variable {f g f' g' F : Nat → Int32} {R : List Row} {r : Row} {o q n k : Nat} {m : Int32}
theorem pl_le : pl f m n ≤ n := by
  induction n with
  | zero => exact Nat.le_refl 0
  | succ n ih =>
    simp only [pl]
    split <;> omega
theorem pl_cg (h : ∀ i, i < n → f i = g i) : pl f m n = pl g m n := by
  induction n with
  | zero => rfl
  | succ n ih =>
    simp only [pl, h n (by omega), ih (fun i hi => h i (by omega))]
theorem mkf_at {i : Nat} (h : R[i]? = some r) : mkf R i = r.1 := by simp [mkf, h]
theorem gl_some {i : Nat} (h : i < R.length) : ∃ r, R[i]? = some r := ⟨R[i], List.getElem?_eq_getElem h⟩
theorem gl_lt {α : Type} {R : List α} {r : α} {i : Nat} (h : R[i]? = some r) : i < R.length := by
  rcases Nat.lt_or_ge i R.length with h1 | h1
  · exact h1
  · rw [List.getElem?_eq_none h1] at h
    cases h
theorem RV.mk {i : Nat} (h : RV f g R) (hi : i < R.length) : f i = mkf R i := by
  obtain ⟨r, hr⟩ := gl_some hi
  rw [(h i r hr).1, mkf_at hr]
theorem RV.plc (h : RV f g R) : pl f m R.length = pl (mkf R) m R.length := pl_cg (fun _ hi => h.mk hi)
theorem RV.cg (h : RV f g R) (h1 : ∀ i, i < R.length → f' i = f i) (h2 : ∀ j, j < 4 * R.length → g' j = g j) : RV f' g' R := by
  intro i r hr
  have hi := gl_lt hr
  obtain ⟨e1, e2⟩ := h i r hr
  exact ⟨by rw [h1 i hi, e1], fun c hc => by rw [h2 _ (by omega), e2 c hc]⟩
theorem pu4_at {c : Nat} (hc : c < 4) : pu4 g o r (o + c) = cel r c := by
  have : c = 0 ∨ c = 1 ∨ c = 2 ∨ c = 3 := by omega
  rcases this with rfl | rfl | rfl | rfl <;> simp (disch := omega) [pu4, upd, cel]
theorem pu4_no {j : Nat} (h : j < o ∨ o + 4 ≤ j) : pu4 g o r j = g j := by
  simp only [pu4, upd]
  rw [if_neg (by omega), if_neg (by omega), if_neg (by omega), if_neg (by omega)]
theorem RV_ins (h : RV f g R) (hq : q ≤ R.length) : RV (upd (shk 1 f q R.length) q r.1) (pu4 (shk 4 g (4 * q) (4 * R.length)) (4 * q) r) (R.insertIdx q r) := by
  intro i r' hr
  rw [List.getElem?_insertIdx] at hr
  by_cases h1 : i < q
  · rw [if_pos h1] at hr
    obtain ⟨e1, e2⟩ := h i r' hr
    refine ⟨?_, fun c hc => ?_⟩
    · rw [← e1]; simp only [upd, shk]; rw [if_neg (by omega), if_neg (by omega)]
    · rw [← e2 c hc, pu4_no (by omega)]; simp only [shk]; rw [if_neg (by omega)]
  · rw [if_neg h1] at hr
    by_cases h2 : i = q
    · subst h2
      rw [if_pos rfl, if_pos hq] at hr
      cases hr
      exact ⟨by simp [upd], fun c hc => pu4_at hc⟩
    · rw [if_neg h2] at hr
      have hi := gl_lt hr
      obtain ⟨e1, e2⟩ := h (i - 1) r' hr
      refine ⟨?_, fun c hc => ?_⟩
      · rw [← e1]; simp only [upd, shk]; rw [if_neg h2, if_pos (by omega)]
      · rw [← e2 c hc, pu4_no (by omega)]; simp only [shk]; rw [if_pos (by omega)]; congr 1; omega
theorem RV_del (h : RV f g R) (hq : q < R.length) : RV (shd 1 f q (R.length - 1)) (shd 4 g (4 * q) (4 * (R.length - 1))) (R.eraseIdx q) := by
  intro i r' hr
  rw [List.getElem?_eraseIdx] at hr
  by_cases h1 : i < q
  · rw [if_pos h1] at hr
    obtain ⟨e1, e2⟩ := h i r' hr
    refine ⟨?_, fun c hc => ?_⟩
    · rw [← e1]; simp only [shd]; rw [if_neg (by omega)]
    · rw [← e2 c hc]; simp only [shd]; rw [if_neg (by omega)]
  · rw [if_neg h1] at hr
    have hi := gl_lt hr
    obtain ⟨e1, e2⟩ := h (i + 1) r' hr
    refine ⟨?_, fun c hc => ?_⟩
    · rw [← e1]; simp only [shd]; rw [if_pos (by omega)]
    · rw [← e2 c hc]; simp only [shd]; rw [if_pos (by omega)]; congr 1; omega
theorem insR_len : (insR R r).length = R.length + 1 := by
  simp only [insR]
  rw [List.length_insertIdx, if_pos pl_le]
theorem off_upd {v : Int32} : off (upd F (o + q) v) o = upd (off F o) q v := by
  funext i
  simp only [off, upd]
  by_cases h : i = q
  · rw [if_pos (by omega), if_pos h]
  · rw [if_neg (by omega), if_neg h]
theorem off_shk {lo hi : Nat} : off (shk k F (o + lo) (o + hi)) o = shk k (off F o) lo hi := by
  funext i
  simp only [off, shk]
  by_cases h : lo + k ≤ i ∧ i < hi + k
  · rw [if_pos (by omega), if_pos h, show o + i - k = o + (i - k) by omega]
  · rw [if_neg (by omega), if_neg h]
theorem off_shd {lo hi : Nat} : off (shd k F (o + lo) (o + hi)) o = shd k (off F o) lo hi := by
  funext i
  simp only [off, shd]
  by_cases h : lo ≤ i ∧ i < hi
  · rw [if_pos (by omega), if_pos h, show o + i + k = o + (i + k) by omega]
  · rw [if_neg (by omega), if_neg h]
theorem off_pu4 : off (pu4 F (o + q) r) o = pu4 (off F o) q r := by
  simp only [pu4, Nat.add_assoc, off_upd]
end RowsV
/-! ===== rows of the class ===== -/
def RC (M : Mem) (a : Nat) (R : List Row) : Prop := M a 2 = nI R.length ∧ R.length ≤ 12 ∧ RV (M (a + 1)) (M (a + 2)) R
section RowsC
variable {fu a : Nat} {M M' : Mem} {R : List Row} {r : Row} {m : Int32}
theorem RC.cg (h : RC M a R) (h0 : M' a 2 = M a 2) (h1 : M' (a + 1) = M (a + 1)) (h2 : M' (a + 2) = M (a + 2)) : RC M' a R := ⟨by rw [h0]; exact h.1, h.2.1, by rw [h1, h2]; exact h.2.2⟩
theorem isCell_eq {p c : Nat} (h : RC M a R) (hp : p < R.length) (hc : c < 4) : f_X6_isCell fu a (nI p) (nI c) M = some 1 := by
  have h1 := h.2.1
  have h2 : ¬ R.length ≤ p := by omega
  have h3 : ¬ 4 ≤ c := by omega
  simp (disch := omega) only [f_X6_isCell, h.1, lit, nI_add, pk_mul, pk_sub, nI_clamp, inb_nI, nI_leI, nI_ltI, nI_eq, add_m1, ↓reduceIte, grd_true, nm_d, jn_d, bd_some, bm_some, om_some, om_none, Nat.not_lt_zero, h2, h3]
theorem cellAt_eq {p c : Nat} (h : RC M a R) (hp : R[p]? = some r) (hc : c < 4) : f_X6_cellAt fu a (nI p) (nI c) M = some (cel r c) := by
  have h0 := gl_lt hp
  have h1 := h.2.1
  simp (disch := omega) only [f_X6_cellAt, isCell_eq h h0 hc, bd_some]
  rw [if_neg (by decide)]
  simp (disch := omega) only [lit, nI_add, pk_mul, pk_sub, nI_clamp, inb_nI, nI_leI, nI_ltI, nI_eq, add_m1, ↓reduceIte, grd_true, nm_d, jn_d, bd_some, bm_some, om_some, om_none]
  rw [Nat.mul_comm p 4, (h.2.2 p r hp).2 c hc]
theorem putCell_eq {p c n : Nat} {v : Int32} (hn : M a 2 = nI n) (hn12 : n ≤ 12) (hp : p < n) (hc : c < 4) : f_X6_putCell fu a (nI p) (nI c) v M = some (up M (a + 2) (4 * p + c) v) := by
  have h2 : ¬ n ≤ p := by omega
  have h3 : ¬ 4 ≤ c := by omega
  simp (disch := omega) only [f_X6_putCell, f_X6_isCell, hn, lit, nI_add, pk_mul, pk_sub, nI_clamp, inb_nI, nI_leI, nI_ltI, nI_eq, add_m1, ↓reduceIte, grd_true, nm_d, jn_d, bd_some, bm_some, om_some, om_none, Nat.not_lt_zero, h2, h3, Nat.one_ne_zero]
  rw [Nat.mul_comm p 4]
/-- the place of the first row with a mark -/
def fst (R : List Row) (m : Int32) : Option Nat := R.findIdx? (fun r => r.1 == m)
def oI (o : Option Nat) : Int32 := match o with | some p => nI p | none => -nI 1
theorem fst_drop {i : Nat} (h : R[i]? = some r) : (R.drop i).findIdx? (fun r => r.1 == m) = if r.1 = m then some 0 else ((R.drop (i + 1)).findIdx? (fun r => r.1 == m)).map (· + 1) := by
  have hi := gl_lt h
  rw [List.getElem?_eq_getElem hi] at h
  cases h
  rw [List.drop_eq_getElem_cons hi, List.findIdx?_cons]
  by_cases hm : R[i].1 = m
  · simp [hm]
  · simp [hm]
theorem placeOfL (h : RC M a R) : ∀ k i n, i + k = R.length → k < n → f_X6_placeOf_L2 fu a m M n (nI i) = some (oI (((R.drop i).findIdx? (fun r => r.1 == m)).map (i + ·))) := by
  have h12 := h.2.1
  intro k
  induction k with
  | zero =>
    intro i n h1 h2
    obtain ⟨n, rfl⟩ := fu1 h2
    have h3 : R.length ≤ i := by omega
    simp (disch := omega) only [f_X6_placeOf_L2, h.1, lit, nI_add, pk_mul, pk_sub, nI_clamp, inb_nI, nI_leI, nI_ltI, nI_eq, add_m1, ↓reduceIte, grd_true, nm_d, jn_d, bd_some, bm_some, om_some, om_none, h3, List.drop_eq_nil_of_le h3, List.findIdx?_nil, Option.map_none, oI]
  | succ k ih =>
    intro i n h1 h2
    obtain ⟨n, rfl⟩ := fu1 h2
    have h3 : ¬ R.length ≤ i := by omega
    obtain ⟨r, hr⟩ := gl_some (R := R) (i := i) (by omega)
    rw [fst_drop hr]
    simp (disch := omega) only [f_X6_placeOf_L2, h.1, lit, nI_add, pk_mul, pk_sub, nI_clamp, inb_nI, nI_leI, nI_ltI, nI_eq, add_m1, ↓reduceIte, grd_true, nm_d, jn_d, bd_some, bm_some, om_some, om_none, h3, (h.2.2 i r hr).1]
    by_cases hm : r.1 = m
    · simp only [hm, ↓reduceIte, Option.map_some, oI, Nat.add_zero]
    · simp only [hm, ↓reduceIte]
      rw [ih (i + 1) n (by omega) (by omega), Option.map_map]
      congr 3
      funext x
      simp only [Function.comp]
      omega
theorem placeOf_eq (hfu : 5000 ≤ fu) (h : RC M a R) : f_X6_placeOf fu a m M = some (oI (fst R m)) := by
  have h12 := h.2.1
  simp only [f_X6_placeOf, lit]
  rw [placeOfL h R.length 0 fu (by omega) (by omega)]
  simp only [List.drop_zero, fst]
  congr 2
  cases R.findIdx? (fun r => r.1 == m) <;> simp
theorem oI_none {o : Option Nat} (h : ∀ p, o = some p → p < 2 ^ 31) : oI o = -nI 1 ↔ o = none := by
  cases o with
  | none => simp [oI]
  | some p => simp [oI, nI_nm1 (h p rfl)]
theorem fst_lt {p : Nat} (h : fst R m = some p) : ∃ r, R[p]? = some r ∧ r.1 = m := by
  rw [fst, List.findIdx?_eq_some_iff_getElem] at h
  obtain ⟨h1, h2, _⟩ := h
  exact ⟨R[p], List.getElem?_eq_getElem h1, by simpa using h2⟩
theorem hasMark_eq (hfu : 5000 ≤ fu) (h : RC M a R) : f_X6_hasMark fu a m M = some (if fst R m = none then 0 else 1) := by
  have h12 := h.2.1
  simp only [f_X6_hasMark, placeOf_eq hfu h, bd_some, lit]
  have h1 : (oI (fst R m) = -nI 1) = (fst R m = none) := propext (oI_none (fun p hp => by obtain ⟨r, hr, _⟩ := fst_lt hp; have := gl_lt hr; omega))
  simp only [h1]
  split <;> rfl
end RowsC
