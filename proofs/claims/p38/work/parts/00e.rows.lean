/-! ===== copies and shifts in one array ===== -/
section Cp
variable {f g : Nat → Int32} {s d c n k lo hi : Nat}
theorem cp_0 : va_cpy f g s d 0 = g := by
  funext j
  exact pk_cpy_out (by omega)
theorem cp_s : upd (va_cpy f g s d c) (d + c) (f (s + c)) = va_cpy f g s d (c + 1) := by
  funext j
  simp only [upd, va_cpy]
  by_cases h : j = d + c
  · subst h
    simp only [if_pos, show d ≤ d + c ∧ d + c < d + (c + 1) by omega, show s + (d + c - d) = s + c by omega, true_and]
  · simp only [if_neg h]
    by_cases h2 : d ≤ j ∧ j < d + c
    · rw [if_pos h2, if_pos (by omega)]
    · rw [if_neg h2, if_neg (by omega)]
theorem cp_in (h : s + c < d ∨ d ≤ s) : va_cpy g g s d c (s + c) = g (s + c) := pk_cpy_out (by omega)
/-- the elements from lo up to hi, k places higher -/
def shk (k : Nat) (f : Nat → Int32) (lo hi : Nat) : Nat → Int32 := fun j => if lo + k ≤ j ∧ j < hi + k then f (j - k) else f j
/-- the elements behind lo + k up to hi + k, k places lower -/
def shd (k : Nat) (f : Nat → Int32) (lo hi : Nat) : Nat → Int32 := fun j => if lo ≤ j ∧ j < hi then f (j + k) else f j
theorem shk_0 : shk k f hi hi = f := by
  funext j
  simp only [shk]
  rw [if_neg (by omega)]
theorem shk_1 (h : lo < hi) : upd (shk 1 f (lo + 1) hi) (lo + 1) (f lo) = shk 1 f lo hi := by
  funext j
  simp only [upd, shk]
  by_cases h1 : j = lo + 1
  · subst h1
    rw [if_pos rfl, if_pos (by omega)]
    rfl
  · rw [if_neg h1]
    by_cases h2 : lo + 1 + 1 ≤ j ∧ j < hi + 1
    · rw [if_pos h2, if_pos (by omega)]
    · rw [if_neg h2, if_neg (by omega)]
theorem shk_lo (h : lo ≤ s) (h2 : s < lo + k) : shk k f lo hi s = f s := by
  simp only [shk]
  rw [if_neg (by omega)]
theorem shk_b (h : s < lo + k) : shk k f lo hi s = f s := by
  simp only [shk]
  rw [if_neg (by omega)]
theorem shk_c (h : lo + 4 ≤ hi) : va_cpy (shk 4 f (lo + 4) hi) (shk 4 f (lo + 4) hi) lo (lo + 4) 4 = shk 4 f lo hi := by
  funext j
  simp only [va_cpy, shk]
  by_cases h1 : lo + 4 ≤ j ∧ j < lo + 4 + 4
  · rw [if_pos h1, if_neg (by omega), if_pos (by omega)]
    congr 1
    omega
  · rw [if_neg h1]
    by_cases h2 : lo + 4 + 4 ≤ j ∧ j < hi + 4
    · rw [if_pos h2, if_pos (by omega)]
    · rw [if_neg h2, if_neg (by omega)]
theorem shd_0 : shd k f lo lo = f := by
  funext j
  simp only [shd]
  rw [if_neg (by omega)]
theorem shd_1 (h : lo ≤ hi) : upd (shd 1 f lo hi) hi (f (hi + 1)) = shd 1 f lo (hi + 1) := by
  funext j
  simp only [upd, shd]
  by_cases h1 : j = hi
  · subst h1
    rw [if_pos rfl, if_pos (by omega)]
  · rw [if_neg h1]
    by_cases h2 : lo ≤ j ∧ j < hi
    · rw [if_pos h2, if_pos (by omega)]
    · rw [if_neg h2, if_neg (by omega)]
theorem shd_b (h : hi ≤ s) : shd k f lo hi s = f s := by
  simp only [shd]
  rw [if_neg (by omega)]
theorem shd_c (h : lo ≤ hi) : va_cpy (shd 4 f lo hi) (shd 4 f lo hi) (hi + 4) hi 4 = shd 4 f lo (hi + 4) := by
  funext j
  simp only [va_cpy, shd]
  by_cases h1 : hi ≤ j ∧ j < hi + 4
  · rw [if_pos h1, if_neg (by omega), if_pos (by omega)]
    congr 1
    omega
  · rw [if_neg h1]
    by_cases h2 : lo ≤ j ∧ j < hi
    · rw [if_pos h2, if_pos (by omega)]
    · rw [if_neg h2, if_neg (by omega)]
end Cp
theorem fu1 {n m : Nat} (h : m < n) : ∃ k, n = k + 1 := ⟨n - 1, by omega⟩
/-! ===== rows of the class ===== -/
section RowsC
variable {fu a : Nat} {M : Mem}
theorem mvL {i j : Nat} (hi : i < 12) (hj : j < 12) (h : i ≠ j) : ∀ m c n, c + m = 4 → m < n → f_X6_moveRow_L14 fu a (nI i) (nI j) n (nI c) (row M (a + 2) (va_cpy (M (a + 2)) (M (a + 2)) (4 * i) (4 * j) c)) = some (row M (a + 2) (va_cpy (M (a + 2)) (M (a + 2)) (4 * i) (4 * j) 4)) := by
  intro m
  induction m with
  | zero =>
    intro c n h1 h2
    obtain ⟨n, rfl⟩ := fu1 h2
    obtain rfl : c = 4 := by omega
    simp (disch := omega) only [f_X6_moveRow_L14, lit, nI_add, pk_mul, pk_sub, nI_clamp, inb_nI, nI_leI, nI_ltI, nI_eq, add_m1, ↓reduceIte, grd_true, nm_d, jn_d, bd_some, bm_some, om_some, om_none, Nat.le_refl]
  | succ m ih =>
    intro c n h1 h2
    obtain ⟨n, rfl⟩ := fu1 h2
    have hc : ¬ 4 ≤ c := by omega
    simp (disch := omega) only [f_X6_moveRow_L14, lit, nI_add, pk_mul, pk_sub, nI_clamp, inb_nI, nI_leI, nI_ltI, nI_eq, add_m1, ↓reduceIte, grd_true, nm_d, jn_d, bd_some, bm_some, om_some, om_none, hc, row_s]
    rw [up_row, row_s, row_row, show i * 4 + c = 4 * i + c by omega, show j * 4 + c = 4 * j + c by omega, cp_in (by omega), cp_s]
    exact ih (c + 1) n (by omega) (by omega)
theorem moveRow_eq {i j : Nat} (hfu : 5000 ≤ fu) (hi : i < 12) (hj : j < 12) (h : i ≠ j) : f_X6_moveRow fu a (nI i) (nI j) M = some (row (up M (a + 1) j (M (a + 1) i)) (a + 2) (va_cpy (M (a + 2)) (M (a + 2)) (4 * i) (4 * j) 4)) := by
  have h1 := mvL (fu := fu) (a := a) (M := up M (a + 1) j (M (a + 1) i)) hi hj h 4 0 fu (by omega) (by omega)
  rw [cp_0, row_self] at h1
  simp (disch := omega) only [f_X6_moveRow, lit, nI_add, pk_mul, pk_sub, nI_clamp, inb_nI, nI_leI, nI_ltI, nI_eq, add_m1, ↓reduceIte, grd_true, nm_d, jn_d, bd_some, bm_some, om_some, om_none] at h1 ⊢
  rw [h1, up_n (by omega)]
end RowsC
