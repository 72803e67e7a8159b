/-! ===== rows of the reference ===== -/
def RM (M : Mem) (s : Nat) (R : List Row) : Prop := M 1 s = nI R.length ∧ R.length ≤ 12 ∧ RV (off (M 2) (12 * s)) (off (M 3) (48 * s)) R
def NDm (R : List Row) : Prop := ∀ (i j : Nat) (r r' : Row), R[i]? = some r → R[j]? = some r' → r.1 = r'.1 → i = j
def minsM (M : Mem) (s : Nat) (R : List Row) (r : Row) : Mem := up (row (row M 2 (upd (shk 1 (M 2) (12 * s + pl (mkf R) r.1 R.length) (12 * s + R.length)) (12 * s + pl (mkf R) r.1 R.length) r.1)) 3 (pu4 (shk 4 (M 3) (48 * s + 4 * pl (mkf R) r.1 R.length) (48 * s + 4 * R.length)) (48 * s + 4 * pl (mkf R) r.1 R.length) r)) 1 s (nI (R.length + 1))
def mdelM (M : Mem) (s : Nat) (R : List Row) (p : Nat) : Mem := row (row (up M 1 s (nI (R.length - 1))) 2 (shd 1 (M 2) (12 * s + p) (12 * s + (R.length - 1)))) 3 (shd 4 (M 3) (48 * s + 4 * p) (48 * s + 4 * (R.length - 1)))
section RowsM
variable {fu s s' : Nat} {M M' : Mem} {R R' : List Row} {r : Row} {m : Int32}
theorem RM.mark (h : RM M s R) {i : Nat} (hr : R[i]? = some r) : M 2 (12 * s + i) = r.1 := (h.2.2 i r hr).1
theorem RM.cell (h : RM M s R) {i c : Nat} (hr : R[i]? = some r) (hc : c < 4) : M 3 (4 * (12 * s + i) + c) = cel r c := by
  rw [← (h.2.2 i r hr).2 c hc, off]
  congr 1
  omega
theorem RM.cg (h : RM M s R) (h0 : M' 1 s = M 1 s) (h1 : M' 2 = M 2) (h2 : M' 3 = M 3) : RM M' s R := ⟨by rw [h0]; exact h.1, h.2.1, by rw [h1, h2]; exact h.2.2⟩
theorem minsM_RM (h : RM M s R) (h1 : R.length < 12) : RM (minsM M s R r) s (insR R r) := by
  refine ⟨by simp only [minsM, insR_len]; rw [up_s], by rw [insR_len]; omega, ?_⟩
  have h2 := RV_ins (r := r) h.2.2 (pl_le (f := mkf R) (m := r.1) (n := R.length))
  simp only [minsM]
  rw [up_n (by omega), up_n (by omega), row_s, row_n (by omega), row_s, off_upd, off_pu4, off_shk, off_shk]
  exact h2
theorem minsM_RM' (h : RM M s' R') (hs : s' ≠ s) (h1 : R.length < 12) : RM (minsM M s R r) s' R' := by
  have h12 := h.2.1
  have hl := pl_le (f := mkf R) (m := r.1) (n := R.length)
  refine ⟨by simp only [minsM]; rw [up_m hs, row_n (by omega), row_n (by omega)]; exact h.1, h12, ?_⟩
  simp only [minsM]
  rw [up_n (by omega), up_n (by omega), row_s, row_n (by omega), row_s]
  refine h.2.2.cg (fun i hi => ?_) (fun j hj => ?_)
  · simp only [off, upd, shk]
    rw [if_neg (by omega), if_neg (by omega)]
  · simp only [off]
    rw [pu4_no (by omega)]
    simp only [shk]
    rw [if_neg (by omega)]
theorem minsM_n {i : Nat} (h : i ≠ 1 ∧ i ≠ 2 ∧ i ≠ 3) : minsM M s R r i = M i := by
  simp only [minsM]
  rw [up_n h.1, row_n h.2.2, row_n h.2.1]
theorem mdelM_RM {p : Nat} (h : RM M s R) (h1 : p < R.length) : RM (mdelM M s R p) s (R.eraseIdx p) := by
  have h12 := h.2.1
  have hl : (R.eraseIdx p).length = R.length - 1 := by rw [List.length_eraseIdx, if_pos h1]
  refine ⟨by simp only [mdelM]; rw [row_n (by omega), row_n (by omega), up_s, hl], by omega, ?_⟩
  have h2 := RV_del h.2.2 h1
  simp only [mdelM]
  rw [row_n (by omega), row_s, row_s, off_shd, off_shd]
  exact h2
theorem mdelM_RM' {p : Nat} (h : RM M s' R') (hs : s' ≠ s) (hR : R.length ≤ 12) (h1 : p < R.length) : RM (mdelM M s R p) s' R' := by
  have h12 := h.2.1
  refine ⟨by simp only [mdelM]; rw [row_n (by omega), row_n (by omega), up_m hs]; exact h.1, h12, ?_⟩
  simp only [mdelM]
  rw [row_n (by omega), row_s, row_s]
  refine h.2.2.cg (fun i hi => ?_) (fun j hj => ?_)
  · simp only [off, shd]
    rw [if_neg (by omega)]
  · simp only [off, shd]
    rw [if_neg (by omega)]
theorem mdelM_n {i p : Nat} (h : i ≠ 1 ∧ i ≠ 2 ∧ i ≠ 3) : mdelM M s R p i = M i := by
  simp only [mdelM]
  rw [row_n h.2.2, row_n h.2.1, up_n h.1]
theorem mplaceL (h : RM M s R) (hs : s < 6) (hN : NDm R) : ∀ k i n (x : Int32), i + k = R.length → k < n → f_X11_placeOf_L5 fu (nI s) m M n x (nI i) = some (match (R.drop i).findIdx? (fun r => r.1 == m) with | some p => nI (i + p) | none => x) := by
  have h12 := h.2.1
  intro k
  induction k with
  | zero =>
    intro i n x h1 h2
    obtain ⟨n, rfl⟩ := fu1 h2
    have h3 : R.length ≤ i := by omega
    simp (disch := omega) only [f_X11_placeOf_L5, h.1, lit, nI_add, pk_mul, pk_sub, nI_clamp, inb_nI, nI_leI, nI_ltI, nI_eq, add_m1, ↓reduceIte, grd_true, nm_d, jn_d, bd_some, bm_some, om_some, om_none, h3, List.drop_eq_nil_of_le h3, List.findIdx?_nil]
  | succ k ih =>
    intro i n x h1 h2
    obtain ⟨n, rfl⟩ := fu1 h2
    have h3 : ¬ R.length ≤ i := by omega
    obtain ⟨r, hr⟩ := gl_some (R := R) (i := i) (by omega)
    rw [fst_drop hr]
    simp (disch := omega) only [f_X11_placeOf_L5, h.1, lit, nI_add, pk_mul, pk_sub, nI_clamp, inb_nI, nI_leI, nI_ltI, nI_eq, add_m1, ↓reduceIte, grd_true, nm_d, jn_d, bd_some, bm_some, om_some, om_none, h3, h.mark hr]
    by_cases hm : r.1 = m
    · simp only [hm, ↓reduceIte, Nat.add_zero]
      rw [ih (i + 1) n _ (by omega) (by omega)]
      have h4 : (R.drop (i + 1)).findIdx? (fun r => r.1 == m) = none := by
        rw [List.findIdx?_eq_none_iff]
        intro y hy
        obtain ⟨j, hj⟩ := List.mem_iff_getElem?.mp hy
        rw [List.getElem?_drop] at hj
        have h5 := hN i (i + 1 + j) r y hr hj
        simp only [beq_eq_false_iff_ne, ne_eq]
        intro e
        have := h5 (by rw [hm, e])
        omega
      rw [h4]
    · simp only [hm, ↓reduceIte]
      rw [ih (i + 1) n _ (by omega) (by omega)]
      cases (R.drop (i + 1)).findIdx? (fun r => r.1 == m) with
      | none => rfl
      | some p => simp only [Option.map_some]; congr 2; omega
theorem mplace_eq (hfu : 5000 ≤ fu) (h : RM M s R) (hs : s < 6) (hN : NDm R) : f_X11_placeOf fu (nI s) m M = some (oI (fst R m)) := by
  have h12 := h.2.1
  simp only [f_X11_placeOf, lit]
  rw [mplaceL h hs hN R.length 0 fu _ (by omega) (by omega)]
  simp only [List.drop_zero, fst]
  cases R.findIdx? (fun r => r.1 == m) <;> simp [oI]
theorem mins4L {x : Nat} (hx : 0 < x) (hx2 : x < 72) {k : Mem → Option Mem} : ∀ d c n, c + d = 4 → d < n → f_X11_inserts_L59 fu (nI x) k n (nI c) (row M 3 (va_cpy (M 3) (M 3) (4 * (x - 1)) (4 * x) c)) = k (row M 3 (va_cpy (M 3) (M 3) (4 * (x - 1)) (4 * x) 4)) := by
  intro d
  induction d with
  | zero =>
    intro c n h1 h2
    obtain ⟨n, rfl⟩ := fu1 h2
    obtain rfl : c = 4 := by omega
    simp (disch := omega) only [f_X11_inserts_L59, lit, nI_add, pk_mul, pk_sub, nI_clamp, inb_nI, nI_leI, nI_ltI, nI_eq, add_m1, ↓reduceIte, grd_true, nm_d, jn_d, bd_some, bm_some, om_some, om_none, Nat.le_refl]
  | succ d ih =>
    intro c n h1 h2
    obtain ⟨n, rfl⟩ := fu1 h2
    have hc : ¬ 4 ≤ c := by omega
    simp (disch := omega) only [f_X11_inserts_L59, lit, nI_add, pk_mul, pk_sub, nI_clamp, inb_nI, nI_leI, nI_ltI, nI_eq, add_m1, ↓reduceIte, grd_true, nm_d, jn_d, bd_some, bm_some, om_some, om_none, hc, row_s]
    rw [up_row, row_s, row_row, cp_in (by omega), cp_s]
    exact ih (c + 1) n (by omega) (by omega)
theorem minsL {F G : Nat → Int32} (hfu : 5000 ≤ fu) (hs : s < 6) {n : Nat} (hn : n < 12) {k : Int32 → Mem → Option Mem} : ∀ p n', p ≤ n → p < n' → f_X11_inserts_L8 fu (nI s) m k n' (nI p) (row (row M 2 (shk 1 F (12 * s + p) (12 * s + n))) 3 (shk 4 G (48 * s + 4 * p) (48 * s + 4 * n))) = k (nI (pl (off F (12 * s)) m p)) (row (row M 2 (shk 1 F (12 * s + pl (off F (12 * s)) m p) (12 * s + n))) 3 (shk 4 G (48 * s + 4 * pl (off F (12 * s)) m p) (48 * s + 4 * n))) := by
  intro p
  induction p with
  | zero =>
    intro n' h1 h2
    obtain ⟨n', rfl⟩ := fu1 h2
    simp (disch := omega) only [f_X11_inserts_L8, lit, nI_add, pk_mul, pk_sub, nI_clamp, inb_nI, nI_leI, nI_ltI, nI_eq, add_m1, ↓reduceIte, grd_true, nm_d, jn_d, bd_some, bm_some, om_some, om_none, Nat.le_refl, pl]
  | succ p ih =>
    intro n' h1 h2
    obtain ⟨n', rfl⟩ := fu1 h2
    have h3 : ¬ p + 1 ≤ 0 := by omega
    simp (disch := omega) only [f_X11_inserts_L8, lit, nI_add, pk_mul, pk_sub, nI_clamp, inb_nI, nI_leI, nI_ltI, nI_eq, add_m1, ↓reduceIte, grd_true, nm_d, jn_d, bd_some, bm_some, om_some, om_none, h3, row_n, row_s, pl]
    rw [show 12 * s + (p + 1) - 1 = 12 * s + p by omega, shk_b (by omega)]
    by_cases hm : off F (12 * s) p ≤ m
    · have hm' : F (12 * s + p) ≤ m := hm
      simp only [hm, hm', ↓reduceIte]
    · have hm' : ¬ F (12 * s + p) ≤ m := hm
      simp only [hm, hm', ↓reduceIte]
      have e4 := mins4L (fu := fu) (x := 12 * s + (p + 1)) (M := up (row (row M 2 (shk 1 F (12 * s + (p + 1)) (12 * s + n))) 3 (shk 4 G (48 * s + 4 * (p + 1)) (48 * s + 4 * n))) 2 (12 * s + (p + 1)) (F (12 * s + p))) (by omega) (by omega) (k := fun M_30 => f_X11_inserts_L8 fu (nI s) m k n' (nI (p + 1 - 1)) M_30) 4 0 fu (by omega) (by omega)
      rw [cp_0, row_self] at e4
      rw [e4, up_n (by omega), row_s]
      have e1 := shk_1 (f := F) (lo := 12 * s + p) (hi := 12 * s + n) (by omega)
      have e2 := shk_c (f := G) (lo := 48 * s + 4 * p) (hi := 48 * s + 4 * n) (by omega)
      rw [show 4 * (12 * s + (p + 1) - 1) = 48 * s + 4 * p by omega, show 4 * (12 * s + (p + 1)) = 48 * s + 4 * p + 4 by omega, show 48 * s + 4 * (p + 1) = 48 * s + 4 * p + 4 by omega, e2]
      have e3 : row (up (row (row M 2 (shk 1 F (12 * s + (p + 1)) (12 * s + n))) 3 (shk 4 G (48 * s + 4 * p + 4) (48 * s + 4 * n))) 2 (12 * s + (p + 1)) (F (12 * s + p))) 3 (shk 4 G (48 * s + 4 * p) (48 * s + 4 * n)) = row (row M 2 (shk 1 F (12 * s + p) (12 * s + n))) 3 (shk 4 G (48 * s + 4 * p) (48 * s + 4 * n)) := by
        funext i
        by_cases hi2 : i = 3
        · subst hi2; rw [row_s, row_s]
        · rw [row_n hi2, row_n hi2]
          by_cases hi1 : i = 2
          · subst hi1; rw [up_r, row_n (by omega), row_s, row_s, ← e1]; rfl
          · rw [up_n hi1, row_n hi2, row_n hi1, row_n hi1]
      rw [e3]
      exact ih n' (by omega) (by omega)
theorem minserts_eq (hfu : 5000 ≤ fu) (h : RM M s R) (hs : s < 6) (h1 : R.length < 12) : f_X11_inserts fu (nI s) r.1 r.2.1 r.2.2.1 r.2.2.2.1 r.2.2.2.2 M = f_X11_writes fu (nI s) (minsM M s R r) := by
  have hl := pl_le (f := mkf R) (m := r.1) (n := R.length)
  have e := h.2.2.plc (m := r.1)
  have bds : ∀ x : Option Mem, bd x (fun M_19 => some M_19) = x := fun x => by cases x <;> rfl
  simp (disch := omega) only [f_X11_inserts, h.1, lit, nI_add, pk_mul, pk_sub, nI_clamp, inb_nI, nI_leI, nI_ltI, nI_eq, add_m1, ↓reduceIte, grd_true, nm_d, jn_d, bd_some, bm_some, om_some, om_none, bds]
  have h2 := minsL (M := M) (s := s) (F := M 2) (G := M 3) (m := r.1) (fu := fu) hfu hs h1 (k := fun x7_4 M_5 => grd (inb (nI (12 * s) + x7_4) 72) (grd (inb (nI 4 * (nI (12 * s) + x7_4)) 288) (grd (inb (nI 4 * (nI (12 * s) + x7_4) + nI 1) 288) (grd (inb (nI 4 * (nI (12 * s) + x7_4) + nI 2) 288) (grd (inb (nI 4 * (nI (12 * s) + x7_4) + nI 3) 288) (f_X11_writes fu (nI s) (up (up (up (up (up (up M_5 2 (nI (12 * s) + x7_4).toNatClampNeg r.1) 3 (nI 4 * (nI (12 * s) + x7_4)).toNatClampNeg r.2.1) 3 (nI 4 * (nI (12 * s) + x7_4) + nI 1).toNatClampNeg r.2.2.1) 3 (nI 4 * (nI (12 * s) + x7_4) + nI 2).toNatClampNeg r.2.2.2.1) 3 (nI 4 * (nI (12 * s) + x7_4) + nI 3).toNatClampNeg r.2.2.2.2) 1 s (up (up (up (up (up M_5 2 (nI (12 * s) + x7_4).toNatClampNeg r.1) 3 (nI 4 * (nI (12 * s) + x7_4)).toNatClampNeg r.2.1) 3 (nI 4 * (nI (12 * s) + x7_4) + nI 1).toNatClampNeg r.2.2.1) 3 (nI 4 * (nI (12 * s) + x7_4) + nI 2).toNatClampNeg r.2.2.2.1) 3 (nI 4 * (nI (12 * s) + x7_4) + nI 3).toNatClampNeg r.2.2.2.2 1 s + nI 1)))))))) R.length fu (Nat.le_refl _) (by omega)
  have e1 : row (row M 2 (shk 1 (M 2) (12 * s + R.length) (12 * s + R.length))) 3 (shk 4 (M 3) (48 * s + 4 * R.length) (48 * s + 4 * R.length)) = M := by
    rw [shk_0, shk_0, row_self, row_self]
  rw [e1] at h2
  rw [h2, e]
  simp (disch := omega) only [lit, nI_add, pk_mul, pk_sub, nI_clamp, inb_nI, nI_leI, nI_ltI, nI_eq, add_m1, ↓reduceIte, grd_true, nm_d, jn_d, bd_some, bm_some, om_some, om_none, row_n, up_n, h.1]
  congr 1
  rw [show 4 * (12 * s + pl (mkf R) r.1 R.length) = 48 * s + 4 * pl (mkf R) r.1 R.length by omega]
  simp only [minsM]
  congr 1
  funext i
  by_cases hi2 : i = 3
  · subst hi2
    simp only [up_r, up_n (show (3 : Nat) ≠ 2 by omega), row_s, pu4]
  · rw [up_n hi2, up_n hi2, up_n hi2, up_n hi2, row_n hi2]
    by_cases hi1 : i = 2
    · subst hi1; rw [row_s, up_r, row_n (by omega), row_s]
    · rw [row_n hi1, up_n hi1, row_n hi2, row_n hi1]
theorem mdel4L {x : Nat} (hx2 : x + 1 < 72) {k : Mem → Option Mem} : ∀ d c n, c + d = 4 → d < n → f_X11_takesOut_L59 fu (nI x) k n (nI c) (row M 3 (va_cpy (M 3) (M 3) (4 * (x + 1)) (4 * x) c)) = k (row M 3 (va_cpy (M 3) (M 3) (4 * (x + 1)) (4 * x) 4)) := by
  intro d
  induction d with
  | zero =>
    intro c n h1 h2
    obtain ⟨n, rfl⟩ := fu1 h2
    obtain rfl : c = 4 := by omega
    simp (disch := omega) only [f_X11_takesOut_L59, lit, nI_add, pk_mul, pk_sub, nI_clamp, inb_nI, nI_leI, nI_ltI, nI_eq, add_m1, ↓reduceIte, grd_true, nm_d, jn_d, bd_some, bm_some, om_some, om_none, Nat.le_refl]
  | succ d ih =>
    intro c n h1 h2
    obtain ⟨n, rfl⟩ := fu1 h2
    have hc : ¬ 4 ≤ c := by omega
    simp (disch := omega) only [f_X11_takesOut_L59, lit, nI_add, pk_mul, pk_sub, nI_clamp, inb_nI, nI_leI, nI_ltI, nI_eq, add_m1, ↓reduceIte, grd_true, nm_d, jn_d, bd_some, bm_some, om_some, om_none, hc, row_s]
    rw [up_row, row_s, row_row, cp_in (by omega), cp_s]
    exact ih (c + 1) n (by omega) (by omega)
theorem mdelL {F G : Nat → Int32} (hfu : 5000 ≤ fu) (hs : s < 6) {n p : Nat} (hn : n < 12) (hM : M 1 s = nI n) {k : Mem → Option Mem} : ∀ d x n', x + d = n → p ≤ x → d < n' → f_X11_takesOut_L20 fu (nI s) k n' (nI x) (row (row M 2 (shd 1 F (12 * s + p) (12 * s + x))) 3 (shd 4 G (48 * s + 4 * p) (48 * s + 4 * x))) = k (row (row M 2 (shd 1 F (12 * s + p) (12 * s + n))) 3 (shd 4 G (48 * s + 4 * p) (48 * s + 4 * n))) := by
  intro d
  induction d with
  | zero =>
    intro x n' h1 h2 h3
    obtain ⟨n', rfl⟩ := fu1 h3
    obtain rfl : x = n := by omega
    simp (disch := omega) only [f_X11_takesOut_L20, row_n, hM, lit, nI_add, pk_mul, pk_sub, nI_clamp, inb_nI, nI_leI, nI_ltI, nI_eq, add_m1, ↓reduceIte, grd_true, nm_d, jn_d, bd_some, bm_some, om_some, om_none, Nat.le_refl]
  | succ d ih =>
    intro x n' h1 h2 h3
    obtain ⟨n', rfl⟩ := fu1 h3
    have h4 : ¬ n ≤ x := by omega
    simp (disch := omega) only [f_X11_takesOut_L20, row_n, row_s, hM, lit, nI_add, pk_mul, pk_sub, nI_clamp, inb_nI, nI_leI, nI_ltI, nI_eq, add_m1, ↓reduceIte, grd_true, nm_d, jn_d, bd_some, bm_some, om_some, om_none, h4]
    rw [shd_b (by omega)]
    have e4 := mdel4L (fu := fu) (x := 12 * s + x) (M := up (row (row M 2 (shd 1 F (12 * s + p) (12 * s + x))) 3 (shd 4 G (48 * s + 4 * p) (48 * s + 4 * x))) 2 (12 * s + x) (F (12 * s + x + 1))) (by omega) (k := fun M_18 => f_X11_takesOut_L20 fu (nI s) k n' (nI (x + 1)) M_18) 4 0 fu (by omega) (by omega)
    rw [cp_0, row_self] at e4
    rw [e4, up_n (by omega), row_s]
    have e1 := shd_1 (f := F) (lo := 12 * s + p) (hi := 12 * s + x) (by omega)
    have e2 := shd_c (f := G) (lo := 48 * s + 4 * p) (hi := 48 * s + 4 * x) (by omega)
    rw [show 4 * (12 * s + x + 1) = 48 * s + 4 * x + 4 by omega, show 4 * (12 * s + x) = 48 * s + 4 * x by omega, e2]
    have e3 : row (up (row (row M 2 (shd 1 F (12 * s + p) (12 * s + x))) 3 (shd 4 G (48 * s + 4 * p) (48 * s + 4 * x))) 2 (12 * s + x) (F (12 * s + x + 1))) 3 (shd 4 G (48 * s + 4 * p) (48 * s + 4 * x + 4)) = row (row M 2 (shd 1 F (12 * s + p) (12 * s + (x + 1)))) 3 (shd 4 G (48 * s + 4 * p) (48 * s + 4 * (x + 1))) := by
      funext i
      by_cases hi2 : i = 3
      · subst hi2; rw [row_s, row_s, show 4 * (x + 1) = 4 * x + 4 by omega]; rfl
      · rw [row_n hi2, row_n hi2]
        by_cases hi1 : i = 2
        · subst hi1; rw [up_r, row_n (by omega), row_s, row_s, ← Nat.add_assoc, ← e1]
        · rw [up_n hi1, row_n hi2, row_n hi1, row_n hi1]
    rw [e3]
    exact ih (x + 1) n' (by omega) (by omega) (by omega)
theorem mtakes_eq {p : Nat} (hfu : 5000 ≤ fu) (h : RM M s R) (hs : s < 6) (hN : NDm R) (hp : fst R m = some p) : f_X11_takesOut fu (nI s) m M = f_X11_writes fu (nI s) (mdelM M s R p) := by
  have h12 := h.2.1
  obtain ⟨r, hr, _⟩ := fst_lt hp
  have h0 := gl_lt hr
  have bds : ∀ x : Option Mem, bd x (fun M_8 => some M_8) = x := fun x => by cases x <;> rfl
  simp (disch := omega) only [f_X11_takesOut, mplace_eq hfu h hs hN, hp, oI, h.1, lit, nI_add, pk_mul, pk_sub, nI_clamp, inb_nI, nI_leI, nI_ltI, nI_eq, add_m1, ↓reduceIte, grd_true, nm_d, jn_d, bd_some, bm_some, om_some, om_none, bds]
  have h2 := mdelL (M := up M 1 s (nI (R.length - 1))) (s := s) (F := M 2) (G := M 3) (p := p) (n := R.length - 1) hfu hs (by omega) up_s (k := fun M_6 => f_X11_writes fu (nI s) M_6) (R.length - 1 - p) p fu (by omega) (by omega) (by omega)
  have e1 : row (row (up M 1 s (nI (R.length - 1))) 2 (shd 1 (M 2) (12 * s + p) (12 * s + p))) 3 (shd 4 (M 3) (48 * s + 4 * p) (48 * s + 4 * p)) = up M 1 s (nI (R.length - 1)) := by
    rw [shd_0, shd_0]
    funext i
    by_cases hi2 : i = 3
    · subst hi2; rw [row_s, up_n (by omega)]
    · rw [row_n hi2]
      by_cases hi1 : i = 2
      · subst hi1; rw [row_s, up_n (by omega)]
      · rw [row_n hi1]
  rw [e1] at h2
  rw [h2]
  rfl
end RowsM
