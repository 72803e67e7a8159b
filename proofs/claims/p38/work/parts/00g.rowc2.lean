/-! ===== rows of the class: put in, taken out, copied ===== -/
def insM (M : Mem) (a : Nat) (R : List Row) (r : Row) : Mem := row (row (up M a 2 (nI (R.length + 1))) (a + 1) (upd (shk 1 (M (a + 1)) (pl (mkf R) r.1 R.length) R.length) (pl (mkf R) r.1 R.length) r.1)) (a + 2) (pu4 (shk 4 (M (a + 2)) (4 * pl (mkf R) r.1 R.length) (4 * R.length)) (4 * pl (mkf R) r.1 R.length) r)
def delM (M : Mem) (a : Nat) (R : List Row) (p : Nat) : Mem := up (row (row M (a + 1) (shd 1 (M (a + 1)) p (R.length - 1))) (a + 2) (shd 4 (M (a + 2)) (4 * p) (4 * (R.length - 1)))) a 2 (nI (R.length - 1))
section RowsC2
variable {fu a b : Nat} {M M' : Mem} {R : List Row} {r : Row} {m : Int32}
theorem insM_RC (h : RC M a R) (h1 : R.length < 12) : RC (insM M a R r) a (insR R r) := by
  refine ⟨?_, by rw [insR_len]; omega, ?_⟩
  · simp only [insM, insR_len]
    rw [row_n (by omega), row_n (by omega), up_s]
  · have h2 := RV_ins (r := r) h.2.2 (pl_le (f := mkf R) (m := r.1) (n := R.length))
    simp only [insM]
    rw [row_s, row_n (by omega), row_s]
    exact h2
theorem insM_n {i : Nat} (h : i ≠ a ∧ i ≠ a + 1 ∧ i ≠ a + 2) : insM M a R r i = M i := by
  simp only [insM]
  rw [row_n h.2.2, row_n h.2.1, up_n h.1]
theorem insM_m {j : Nat} (h : j ≠ 2) : insM M a R r a j = M a j := by
  simp only [insM]
  rw [row_n (by omega), row_n (by omega), up_m h]
theorem delM_RC {p : Nat} (h : RC M a R) (h1 : p < R.length) : RC (delM M a R p) a (R.eraseIdx p) := by
  have h12 := h.2.1
  have hl : (R.eraseIdx p).length = R.length - 1 := by rw [List.length_eraseIdx, if_pos h1]
  refine ⟨?_, by omega, ?_⟩
  · simp only [delM]
    rw [up_s, hl]
  · have h2 := RV_del h.2.2 h1
    simp only [delM]
    rw [up_n (by omega), up_n (by omega), row_s, row_n (by omega), row_s]
    exact h2
theorem delM_n {i p : Nat} (h : i ≠ a ∧ i ≠ a + 1 ∧ i ≠ a + 2) : delM M a R p i = M i := by
  simp only [delM]
  rw [up_n h.1, row_n h.2.2, row_n h.2.1]
theorem delM_m {j p : Nat} (h : j ≠ 2) : delM M a R p a j = M a j := by
  simp only [delM]
  rw [up_m h, row_n (by omega), row_n (by omega)]
theorem makePlaceL {F G : Nat → Int32} (hfu : 5000 ≤ fu) {n : Nat} (hn : n < 12) {k : Int32 → Mem → Option (Int32 × Mem)} : ∀ p n', p ≤ n → p < n' → f_X6_makePlace_L26 fu a m k n' (nI p) (row (row M (a + 1) (shk 1 F p n)) (a + 2) (shk 4 G (4 * p) (4 * n))) = k (nI (pl F m p)) (row (row M (a + 1) (shk 1 F (pl F m p) n)) (a + 2) (shk 4 G (4 * pl F m p) (4 * n))) := by
  intro p
  induction p with
  | zero =>
    intro n' h1 h2
    obtain ⟨n', rfl⟩ := fu1 h2
    simp (disch := omega) only [f_X6_makePlace_L26, lit, nI_add, pk_mul, pk_sub, nI_clamp, inb_nI, nI_leI, nI_ltI, nI_eq, add_m1, ↓reduceIte, grd_true, nm_d, jn_d, bd_some, bm_some, om_some, om_none, Nat.le_refl, pl]
  | succ p ih =>
    intro n' h1 h2
    obtain ⟨n', rfl⟩ := fu1 h2
    have h3 : ¬ p + 1 ≤ 0 := by omega
    simp (disch := omega) only [f_X6_makePlace_L26, lit, nI_add, pk_mul, pk_sub, nI_clamp, inb_nI, nI_leI, nI_ltI, nI_eq, add_m1, ↓reduceIte, grd_true, nm_d, jn_d, bd_some, bm_some, om_some, om_none, h3, Nat.add_sub_cancel, row_n, row_s, pl]
    rw [shk_b (by omega)]
    by_cases hm : F p ≤ m
    · simp only [hm, ↓reduceIte]
    · simp only [hm, ↓reduceIte]
      rw [moveRow_eq hfu (by omega) (by omega) (by omega)]
      simp (disch := omega) only [bd_some, nm_d, row_n, row_s]
      rw [shk_b (by omega)]
      have e1 := shk_1 (f := F) (lo := p) (hi := n) (by omega)
      have e2 := shk_c (f := G) (lo := 4 * p) (hi := 4 * n) (by omega)
      rw [show 4 * (p + 1) = 4 * p + 4 by omega, e2]
      have e3 : row (up (row (row M (a + 1) (shk 1 F (p + 1) n)) (a + 2) (shk 4 G (4 * p + 4) (4 * n))) (a + 1) (p + 1) (F p)) (a + 2) (shk 4 G (4 * p) (4 * n)) = row (row M (a + 1) (shk 1 F p n)) (a + 2) (shk 4 G (4 * p) (4 * n)) := by
        funext i
        by_cases hi2 : i = a + 2
        · subst hi2; rw [row_s, row_s]
        · rw [row_n hi2, row_n hi2]
          by_cases hi1 : i = a + 1
          · subst hi1; rw [up_r, row_n (by omega), row_s, row_s, e1]
          · rw [up_n hi1, row_n hi2, row_n hi1, row_n hi1]
      rw [e3]
      exact ih n' (by omega) (by omega)
theorem makePlace_eq (hfu : 5000 ≤ fu) (h : RC M a R) (h1 : R.length < 12) : f_X6_makePlace fu a m M = some (nI (pl (mkf R) m R.length), row (row (up M a 2 (nI (R.length + 1))) (a + 1) (upd (shk 1 (M (a + 1)) (pl (mkf R) m R.length) R.length) (pl (mkf R) m R.length) m)) (a + 2) (shk 4 (M (a + 2)) (4 * pl (mkf R) m R.length) (4 * R.length))) := by
  have hl := pl_le (f := mkf R) (m := m) (n := R.length)
  have e := h.2.2.plc (m := m)
  simp (disch := omega) only [f_X6_makePlace, h.1, lit, nI_add, pk_mul, pk_sub, nI_clamp, inb_nI, nI_leI, nI_ltI, nI_eq, add_m1, ↓reduceIte, grd_true, nm_d, jn_d, bd_some, bm_some, om_some, om_none, h1]
  have h2 := makePlaceL (a := a) (M := up M a 2 (nI (R.length + 1))) (F := M (a + 1)) (G := M (a + 2)) (m := m) hfu h1 (k := fun x2_5 M_6 => grd (inb x2_5 12) (some (x2_5, up M_6 (a + 1) x2_5.toNatClampNeg m))) R.length fu (Nat.le_refl _) (by omega)
  have e1 : row (row (up M a 2 (nI (R.length + 1))) (a + 1) (shk 1 (M (a + 1)) R.length R.length)) (a + 2) (shk 4 (M (a + 2)) (4 * R.length) (4 * R.length)) = up M a 2 (nI (R.length + 1)) := by
    rw [shk_0, shk_0]
    funext i
    by_cases hi2 : i = a + 2
    · subst hi2; rw [row_s, up_n (by omega)]
    · rw [row_n hi2]
      by_cases hi1 : i = a + 1
      · subst hi1; rw [row_s, up_n (by omega)]
      · rw [row_n hi1]
  rw [e1] at h2
  rw [h2, e]
  simp (disch := omega) only [lit, nI_add, pk_mul, pk_sub, nI_clamp, inb_nI, nI_leI, nI_ltI, nI_eq, add_m1, ↓reduceIte, grd_true, nm_d, jn_d, bd_some, bm_some, om_some, om_none]
  congr 2
  funext i
  by_cases hi2 : i = a + 2
  · subst hi2; rw [row_s, up_n (by omega), row_s]
  · rw [row_n hi2]
    by_cases hi1 : i = a + 1
    · subst hi1; rw [row_s, up_r, row_n (by omega), row_s]
    · rw [row_n hi1, up_n hi1, row_n hi2, row_n hi1]
theorem ins4 : up (up (up (up (row (row (up M a 2 (nI (R.length + 1))) (a + 1) (upd (shk 1 (M (a + 1)) (pl (mkf R) r.1 R.length) R.length) (pl (mkf R) r.1 R.length) r.1)) (a + 2) (shk 4 (M (a + 2)) (4 * pl (mkf R) r.1 R.length) (4 * R.length))) (a + 2) (4 * pl (mkf R) r.1 R.length) (cel r 0)) (a + 2) (4 * pl (mkf R) r.1 R.length + 1) (cel r 1)) (a + 2) (4 * pl (mkf R) r.1 R.length + 2) (cel r 2)) (a + 2) (4 * pl (mkf R) r.1 R.length + 3) (cel r 3) = insM M a R r := by
  simp only [up_row, row_s, row_row, insM]
  rfl
theorem takeRow_eq {R' : List Row} {p : Nat} (hfu : 5000 ≤ fu) (h : RC M a R) (h1 : R.length < 12) (h' : RC M b R') (hp : R'[p]? = some r) (hab : a + 2 < b ∨ b + 2 < a) : f_X6_takeRow fu a b (nI p) M = some (insM M a R r) := by
  have hl := pl_le (f := mkf R) (m := r.1) (n := R.length)
  have h0 := gl_lt hp
  have h12 := h'.2.1
  simp (disch := omega) only [f_X6_takeRow, h'.1, lit, nI_add, pk_mul, pk_sub, nI_clamp, inb_nI, nI_leI, nI_ltI, nI_eq, add_m1, ↓reduceIte, grd_true, nm_d, jn_d, bd_some, bm_some, om_some, om_none, h0, Nat.not_lt_zero, (h'.2.2 p r hp).1, makePlace_eq hfu h h1]
  rw [← ins4]
  generalize hN : row (row (up M a 2 (nI (R.length + 1))) (a + 1) (upd (shk 1 (M (a + 1)) (pl (mkf R) r.1 R.length) R.length) (pl (mkf R) r.1 R.length) r.1)) (a + 2) (shk 4 (M (a + 2)) (4 * pl (mkf R) r.1 R.length) (4 * R.length)) = N
  have hN1 : N a 2 = nI (R.length + 1) := by rw [← hN, row_n (by omega), row_n (by omega), up_s]
  have hN2 : RC N b R' := by
    refine h'.cg ?_ ?_ ?_ <;> rw [← hN, row_n (by omega), row_n (by omega), up_n (by omega)]
  generalize hq : pl (mkf R) r.1 R.length = q at hl
  obtain ⟨f, rfl⟩ : ∃ f, fu = f + 5 := ⟨fu - 5, by omega⟩
  have st : ∀ (c : Nat) (v : Int32) (N : Mem), N a 2 = nI (R.length + 1) → RC N b R' → up N (a + 2) (4 * q + c) v a 2 = nI (R.length + 1) ∧ RC (up N (a + 2) (4 * q + c) v) b R' := fun c v N e1 e2 => ⟨by rw [up_n (by omega)]; exact e1, e2.cg (by rw [up_n (by omega)]) (by rw [up_n (by omega)]) (by rw [up_n (by omega)])⟩
  have s0 := st 0 (cel r 0) N hN1 hN2
  have s1 := st 1 (cel r 1) _ s0.1 s0.2
  have s2 := st 2 (cel r 2) _ s1.1 s1.2
  have s3 := st 3 (cel r 3) _ s2.1 s2.2
  have hc (fu : Nat) (N : Mem) (c : Nat) (hh : c < 4) (hR : RC N b R') := cellAt_eq (fu := fu) hR hp hh
  have hd (fu : Nat) (N : Mem) (c : Nat) (v : Int32) (hh : c < 4) (hR : N a 2 = nI (R.length + 1)) := putCell_eq (fu := fu) (a := a) (M := N) (c := c) (v := v) hR (by omega) (show q < R.length + 1 by omega) hh
  simp (disch := omega) only [f_X6_takeRow_L27, lit, nI_add, pk_mul, pk_sub, nI_clamp, inb_nI, nI_leI, nI_ltI, nI_eq, add_m1, ↓reduceIte, grd_true, nm_d, jn_d, bd_some, bm_some, om_some, om_none, show ¬ 4 ≤ 0 by omega, hc _ _ 0 (by omega) hN2, hd _ _ 0 _ (by omega) hN1, show ¬ 4 ≤ 0 + 1 by omega, hc _ _ (0 + 1) (by omega) s0.2, hd _ _ (0 + 1) _ (by omega) s0.1, show ¬ 4 ≤ 0 + 1 + 1 by omega, hc _ _ (0 + 1 + 1) (by omega) s1.2, hd _ _ (0 + 1 + 1) _ (by omega) s1.1, show ¬ 4 ≤ 0 + 1 + 1 + 1 by omega, hc _ _ (0 + 1 + 1 + 1) (by omega) s2.2, hd _ _ (0 + 1 + 1 + 1) _ (by omega) s2.1, show 4 ≤ 0 + 1 + 1 + 1 + 1 by omega]
  rfl
theorem dropPlaceL {F G : Nat → Int32} (hfu : 5000 ≤ fu) {n p : Nat} (hn : n ≤ 12) (hM : M a 2 = nI n) {k : Mem → Option Mem} : ∀ d x n', x + d = n → p < x → d < n' → f_X6_dropPlace_L17 fu a k n' (nI x) (row (row M (a + 1) (shd 1 F p (x - 1))) (a + 2) (shd 4 G (4 * p) (4 * (x - 1)))) = k (row (row M (a + 1) (shd 1 F p (n - 1))) (a + 2) (shd 4 G (4 * p) (4 * (n - 1)))) := by
  intro d
  induction d with
  | zero =>
    intro x n' h1 h2 h3
    obtain ⟨n', rfl⟩ := fu1 h3
    obtain rfl : x = n := by omega
    simp (disch := omega) only [f_X6_dropPlace_L17, row_n, hM, lit, nI_add, pk_mul, pk_sub, nI_clamp, inb_nI, nI_leI, nI_ltI, nI_eq, add_m1, ↓reduceIte, grd_true, nm_d, jn_d, bd_some, bm_some, om_some, om_none, Nat.le_refl]
  | succ d ih =>
    intro x n' h1 h2 h3
    obtain ⟨n', rfl⟩ := fu1 h3
    have h4 : ¬ n ≤ x := by omega
    obtain ⟨y, rfl⟩ : ∃ y, x = y + 1 := ⟨x - 1, by omega⟩
    simp (disch := omega) only [f_X6_dropPlace_L17, row_n, hM, lit, nI_add, pk_mul, pk_sub, nI_clamp, inb_nI, nI_leI, nI_ltI, nI_eq, add_m1, ↓reduceIte, grd_true, nm_d, jn_d, bd_some, bm_some, om_some, om_none, h4, Nat.add_sub_cancel]
    rw [moveRow_eq hfu (by omega) (by omega) (by omega)]
    simp (disch := omega) only [bd_some, nm_d, row_n, row_s]
    rw [shd_b (by omega)]
    have e1 := shd_1 (f := F) (lo := p) (hi := y) (by omega)
    have e2 := shd_c (f := G) (lo := 4 * p) (hi := 4 * y) (by omega)
    rw [show 4 * (y + 1) = 4 * y + 4 by omega, e2]
    have e3 : row (up (row (row M (a + 1) (shd 1 F p y)) (a + 2) (shd 4 G (4 * p) (4 * y))) (a + 1) y (F (y + 1))) (a + 2) (shd 4 G (4 * p) (4 * y + 4)) = row (row M (a + 1) (shd 1 F p (y + 1))) (a + 2) (shd 4 G (4 * p) (4 * y + 4)) := by
      funext i
      by_cases hi2 : i = a + 2
      · subst hi2; rw [row_s, row_s]
      · rw [row_n hi2, row_n hi2]
        by_cases hi1 : i = a + 1
        · subst hi1; rw [up_r, row_n (by omega), row_s, row_s, e1]
        · rw [up_n hi1, row_n hi2, row_n hi1, row_n hi1]
    rw [e3]
    have h5 := ih (y + 1 + 1) n' (by omega) (by omega) (by omega)
    rw [show y + 1 + 1 - 1 = y + 1 by omega, show 4 * (y + 1) = 4 * y + 4 by omega] at h5
    exact h5
theorem dropPlace_eq {p : Nat} (hfu : 5000 ≤ fu) (h : RC M a R) (hp : p < R.length) : f_X6_dropPlace fu a (nI p) M = some (delM M a R p) := by
  have h12 := h.2.1
  simp (disch := omega) only [f_X6_dropPlace, h.1, lit, nI_add, pk_mul, pk_sub, nI_clamp, inb_nI, nI_leI, nI_ltI, nI_eq, add_m1, ↓reduceIte, grd_true, nm_d, jn_d, bd_some, bm_some, om_some, om_none, hp, Nat.not_lt_zero]
  have h2 := dropPlaceL (a := a) (M := M) (F := M (a + 1)) (G := M (a + 2)) (p := p) hfu h.2.1 h.1 (k := fun (M_5 : Mem) => some (up M_5 a 2 (M_5 a 2 - nI 1))) (R.length - (p + 1)) (p + 1) fu (by omega) (by omega) (by omega)
  have e1 : row (row M (a + 1) (shd 1 (M (a + 1)) p (p + 1 - 1))) (a + 2) (shd 4 (M (a + 2)) (4 * p) (4 * (p + 1 - 1))) = M := by
    rw [show p + 1 - 1 = p by omega, shd_0, shd_0]
    funext i
    by_cases hi2 : i = a + 2
    · subst hi2; rw [row_s]
    · rw [row_n hi2]
      by_cases hi1 : i = a + 1
      · subst hi1; rw [row_s]
      · rw [row_n hi1]
  rw [e1] at h2
  rw [h2, delM, row_n (by omega), row_n (by omega), h.1, pk_sub (by omega)]
theorem copy_eq (hab : a + 2 < b ∨ b + 2 < a) : f_X6_copy fu a b M = some (row (row (up M a 2 (M b 2)) (a + 1) (va_cpy (M (b + 1)) (M (a + 1)) 0 0 12)) (a + 2) (va_cpy (M (b + 2)) (M (a + 2)) 0 0 48)) := by
  simp (disch := omega) only [f_X6_copy, nm_d, up_n, row_n]
theorem copy_RC (h : RC M b R) : RC (row (row (up M a 2 (M b 2)) (a + 1) (va_cpy (M (b + 1)) (M (a + 1)) 0 0 12)) (a + 2) (va_cpy (M (b + 2)) (M (a + 2)) 0 0 48)) a R := by
  have h12 := h.2.1
  refine ⟨?_, h.2.1, ?_⟩
  · rw [row_n (by omega), row_n (by omega), up_s, h.1]
  · rw [row_s, row_n (by omega), row_s]
    refine h.2.2.cg (fun i hi => ?_) (fun j hj => ?_)
    · rw [pk_cpy_in (by omega) (by omega)]; congr 1; omega
    · rw [pk_cpy_in (by omega) (by omega)]; congr 1; omega
end RowsC2
