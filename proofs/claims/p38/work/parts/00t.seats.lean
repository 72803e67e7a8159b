/-! ===== the draft stays; keys; rows laid ===== -/
def DS (n m : Mem) : Prop := (∀ a, 19 ≤ a → a ≤ 29 → n a = m a) ∧ ∀ j, 22 ≤ j → j ≤ 38 → n 0 j = m 0 j
def kin (f : Nat → Int32) (v : Int32) (a b : Nat) : Bool := an (fun j => decide (a ≤ j) && decide (f j = v)) b
def laM (m : Mem) (i : Nat) (A : List Row) (r : Row) : Mem := up (row (row m 44 (upd (shk 1 (m 44) (12 * i + pl (mkf A) r.1 A.length) (12 * i + A.length)) (12 * i + pl (mkf A) r.1 A.length) r.1)) 45 (pu4 (shk 4 (m 45) (48 * i + 4 * pl (mkf A) r.1 A.length) (48 * i + 4 * A.length)) (48 * i + 4 * pl (mkf A) r.1 A.length) r)) 43 i (nI (A.length + 1))
section Seats
variable {fu nS nL nC nO i w : Nat} {M m N n : Mem} {r : Row} {R A : List Row}
theorem DS.rfl : DS m m := ⟨fun _ _ _ => Eq.refl _, fun _ _ _ => Eq.refl _⟩
theorem DS.trans {p : Mem} (h : DS n p) (h' : DS p m) : DS n m := ⟨fun a h1 h2 => by rw [h.1 a h1 h2, h'.1 a h1 h2], fun j h1 h2 => by rw [h.2 j h1 h2, h'.2 j h1 h2]⟩
theorem DS.cs (h : DS n m) : snt n = snt m := by
  funext i w
  simp only [snt, h.1 24 (by omega) (by omega), h.1 19 (by omega) (by omega), h.1 25 (by omega) (by omega), h.1 26 (by omega) (by omega)]
theorem DR.cg (h : DR M m) (h1 : ∀ a, 80 ≤ a → a ≤ 89 → N a = M a) (h2 : DS n m) : DR N n := by
  obtain ⟨⟨a1, a2, a3, a4, a5, a6⟩, ⟨b1, b2, b3, b4, b5, b6, b7⟩, c⟩ := h
  obtain ⟨d1, d2⟩ := h2
  refine ⟨⟨?_, ?_, ?_, ?_, ?_, ?_⟩, ⟨?_, ?_, ?_, ?_, ?_, ?_, ?_⟩, ?_⟩
  all_goals (try simp (disch := omega) only [h1, d1, d2])
  all_goals assumption
theorem DG.cg (h : DG m nS nL nC nO) (h2 : DS n m) : DG n nS nL nC nO := by
  obtain ⟨d1, d2⟩ := h2
  simp (disch := omega) only [DG, d1, d2] at h ⊢
  exact h
theorem DS.cl (h : DS n m) : hld n = hld m := by
  funext w r
  simp only [hld, h.1 25 (by omega) (by omega), h.1 26 (by omega) (by omega), h.1 27 (by omega) (by omega)]
theorem DS.cS (h : DS n m) : hS n = hS m := by
  funext i r w
  simp only [hS, h.cs, h.cl]
theorem DS.cA (h : DS n m) : hA n = hA m := by
  funext i r w
  simp only [hA, h.cl, h.1 24 (by omega) (by omega)]
/-! keys -/
theorem mkeyL {v : Int32} {a b : Nat} (hb : b ≤ 12) : ∀ d j n x, j + d = b → d < n → x = bI (kin (m 48) v a j) → a ≤ j → f_X11_isKey_L6 fu v (nI b) m n x (nI j) = some (bI (kin (m 48) v a b)) := by
  intro d
  induction d with
  | zero =>
    intro j n x h1 h2 hx ha
    obtain ⟨n, rfl⟩ := fu1 h2
    obtain rfl : j = b := by omega
    simp (disch := omega) only [f_X11_isKey_L6, lit, nI_add, pk_mul, pk_sub, nI_clamp, inb_nI, nI_leI, nI_ltI, nI_eq, add_m1, ↓reduceIte, grd_true, nm_d, jn_d, bd_some, bm_some, om_some, om_none, Nat.le_refl, hx, isb_bI]
  | succ d ih =>
    intro j n x h1 h2 hx ha
    obtain ⟨n, rfl⟩ := fu1 h2
    have h3 : ¬ b ≤ j := by omega
    have e1 : kin (m 48) v a (j + 1) = (kin (m 48) v a j || decide (m 48 j = v)) := by simp [kin, an, ha]
    simp (disch := omega) only [f_X11_isKey_L6, lit, nI_add, pk_mul, pk_sub, nI_clamp, inb_nI, nI_leI, nI_ltI, nI_eq, add_m1, ↓reduceIte, grd_true, nm_d, jn_d, bd_some, bm_some, om_some, om_none, h3, hx, bI_0]
    cases h5 : kin (m 48) v a j with
    | true =>
      rw [if_neg (by decide)]
      exact ih (j + 1) n _ (by omega) (by omega) (by rw [e1, h5]; rfl) (by omega)
    | false =>
      rw [if_pos rfl]
      by_cases h6 : m 48 j = v
      · rw [if_pos h6]
        exact ih (j + 1) n _ (by omega) (by omega) (by rw [e1, h5]; simp [h6]; rfl) (by omega)
      · rw [if_neg h6]
        exact ih (j + 1) n _ (by omega) (by omega) (by rw [e1, h5]; simp [h6]; rfl) (by omega)
theorem kin_aa {f : Nat → Int32} {v : Int32} {a : Nat} : kin f v a a = false := by
  refine an_f (fun j hj => ?_)
  simp; intro h; omega
theorem mkey_eq {v : Int32} {a b : Nat} (hfu : 5000 ≤ fu) (hb : b ≤ 12) (hab : a ≤ b) : f_X11_isKey fu v (nI a) (nI b) m = some (bI (kin (m 48) v a b)) := mkeyL hb (b - a) a fu 0 (by omega) (by omega) (by rw [kin_aa]; rfl) (Nat.le_refl _)
theorem ckeyL {v : Int32} {a b : Nat} (hb : b ≤ 12) : ∀ d j n, j + d = b → d < n → kin (M 121) v a j = false → a ≤ j → f_X1_isKey_L3 fu v (nI b) M n (nI j) = some (bI (kin (M 121) v a b)) := by
  intro d
  induction d with
  | zero =>
    intro j n h1 h2 hx ha
    obtain ⟨n, rfl⟩ := fu1 h2
    obtain rfl : j = b := by omega
    simp (disch := omega) only [f_X1_isKey_L3, lit, nI_add, pk_mul, pk_sub, nI_clamp, inb_nI, nI_leI, nI_ltI, nI_eq, add_m1, ↓reduceIte, grd_true, nm_d, jn_d, bd_some, bm_some, om_some, om_none, Nat.le_refl, hx]
    rfl
  | succ d ih =>
    intro j n h1 h2 hx ha
    obtain ⟨n, rfl⟩ := fu1 h2
    have h3 : ¬ b ≤ j := by omega
    have e1 : kin (M 121) v a (j + 1) = (kin (M 121) v a j || decide (M 121 j = v)) := by simp [kin, an, ha]
    simp (disch := omega) only [f_X1_isKey_L3, lit, nI_add, pk_mul, pk_sub, nI_clamp, inb_nI, nI_leI, nI_ltI, nI_eq, add_m1, ↓reduceIte, grd_true, nm_d, jn_d, bd_some, bm_some, om_some, om_none, h3]
    by_cases h6 : M 121 j = v
    · rw [if_pos h6]
      have : kin (M 121) v a b = true := an_t (k := j) (by simp [ha, h6]) (by omega)
      rw [this]
      rfl
    · rw [if_neg h6]
      exact ih (j + 1) n (by omega) (by omega) (by rw [e1, hx]; simp [h6]) (by omega)
theorem ckey_eq {v : Int32} {a b : Nat} (hfu : 5000 ≤ fu) (hb : b ≤ 12) (hab : a ≤ b) : f_X1_isKey fu v (nI a) (nI b) M = some (bI (kin (M 121) v a b)) := ckeyL hb (b - a) a fu (by omega) (by omega) kin_aa (Nat.le_refl _)
/-! rows laid, the reference -/
theorem la76L {x : Nat} (hx : 0 < x) (hx2 : x < 36) {k : Mem → Option Mem} : ∀ d c n, c + d = 4 → d < n → f_X11_lays_L76 fu (nI x) k n (nI c) (row M 45 (va_cpy (M 45) (M 45) (4 * (x - 1)) (4 * x) c)) = k (row M 45 (va_cpy (M 45) (M 45) (4 * (x - 1)) (4 * x) 4)) := by
  intro d
  induction d with
  | zero =>
    intro c n h1 h2
    obtain ⟨n, rfl⟩ := fu1 h2
    obtain rfl : c = 4 := by omega
    simp (disch := omega) only [f_X11_lays_L76, lit, nI_add, pk_mul, pk_sub, nI_clamp, inb_nI, nI_leI, nI_ltI, nI_eq, add_m1, ↓reduceIte, grd_true, nm_d, jn_d, bd_some, bm_some, om_some, om_none, Nat.le_refl]
  | succ d ih =>
    intro c n h1 h2
    obtain ⟨n, rfl⟩ := fu1 h2
    have hc : ¬ 4 ≤ c := by omega
    simp (disch := omega) only [f_X11_lays_L76, lit, nI_add, pk_mul, pk_sub, nI_clamp, inb_nI, nI_leI, nI_ltI, nI_eq, add_m1, ↓reduceIte, grd_true, nm_d, jn_d, bd_some, bm_some, om_some, om_none, hc, row_s]
    rw [up_row, row_s, row_row, cp_in (by omega), cp_s]
    exact ih (c + 1) n (by omega) (by omega)
theorem laL {F G : Nat → Int32} {x : Nat} (hfu : 5000 ≤ fu) (hi : i < 3) {n : Nat} (hn : n < 12) (hx : x < 72) {k : Int32 → Mem → Option Mem} : ∀ p n', p ≤ n → p < n' → f_X11_lays_L20 fu (nI i) (nI x) k n' (nI p) (row (row M 44 (shk 1 F (12 * i + p) (12 * i + n))) 45 (shk 4 G (48 * i + 4 * p) (48 * i + 4 * n))) = k (nI (pl (off F (12 * i)) (M 2 x) p)) (row (row M 44 (shk 1 F (12 * i + pl (off F (12 * i)) (M 2 x) p) (12 * i + n))) 45 (shk 4 G (48 * i + 4 * pl (off F (12 * i)) (M 2 x) p) (48 * i + 4 * n))) := by
  intro p
  induction p with
  | zero =>
    intro n' h1 h2
    obtain ⟨n', rfl⟩ := fu1 h2
    simp (disch := omega) only [f_X11_lays_L20, lit, nI_add, pk_mul, pk_sub, nI_clamp, inb_nI, nI_leI, nI_ltI, nI_eq, add_m1, ↓reduceIte, grd_true, nm_d, jn_d, bd_some, bm_some, om_some, om_none, Nat.le_refl, pl]
  | succ p ih =>
    intro n' h1 h2
    obtain ⟨n', rfl⟩ := fu1 h2
    have h3 : ¬ p + 1 ≤ 0 := by omega
    simp (disch := omega) only [f_X11_lays_L20, lit, nI_add, pk_mul, pk_sub, nI_clamp, inb_nI, nI_leI, nI_ltI, nI_eq, add_m1, ↓reduceIte, grd_true, nm_d, jn_d, bd_some, bm_some, om_some, om_none, h3, row_n, row_s, pl]
    rw [show 12 * i + (p + 1) - 1 = 12 * i + p by omega, shk_b (by omega)]
    by_cases hm : off F (12 * i) p ≤ M 2 x
    · have hm' : F (12 * i + p) ≤ M 2 x := hm
      simp only [hm, hm', ↓reduceIte]
    · have hm' : ¬ F (12 * i + p) ≤ M 2 x := hm
      simp only [hm, hm', ↓reduceIte]
      have e4 := la76L (fu := fu) (x := 12 * i + (p + 1)) (M := up (row (row M 44 (shk 1 F (12 * i + (p + 1)) (12 * i + n))) 45 (shk 4 G (48 * i + 4 * (p + 1)) (48 * i + 4 * n))) 44 (12 * i + (p + 1)) (F (12 * i + p))) (by omega) (by omega) (k := fun M_31 => f_X11_lays_L20 fu (nI i) (nI x) k n' (nI (p + 1 - 1)) M_31) 4 0 fu (by omega) (by omega)
      rw [cp_0, row_self] at e4
      rw [e4, up_n (by omega), row_s]
      have e1 := shk_1 (f := F) (lo := 12 * i + p) (hi := 12 * i + n) (by omega)
      have e2 := shk_c (f := G) (lo := 48 * i + 4 * p) (hi := 48 * i + 4 * n) (by omega)
      rw [show 4 * (12 * i + (p + 1) - 1) = 48 * i + 4 * p by omega, show 4 * (12 * i + (p + 1)) = 48 * i + 4 * p + 4 by omega, show 48 * i + 4 * (p + 1) = 48 * i + 4 * p + 4 by omega, e2]
      have e3 : row (up (row (row M 44 (shk 1 F (12 * i + (p + 1)) (12 * i + n))) 45 (shk 4 G (48 * i + 4 * p + 4) (48 * i + 4 * n))) 44 (12 * i + (p + 1)) (F (12 * i + p))) 45 (shk 4 G (48 * i + 4 * p) (48 * i + 4 * n)) = row (row M 44 (shk 1 F (12 * i + p) (12 * i + n))) 45 (shk 4 G (48 * i + 4 * p) (48 * i + 4 * n)) := by
        funext j
        by_cases hi2 : j = 45
        · subst hi2; rw [row_s, row_s]
        · rw [row_n hi2, row_n hi2]
          by_cases hi1 : j = 44
          · subst hi1; rw [up_r, row_n (by omega), row_s, row_s, ← e1]; rfl
          · rw [up_n hi1, row_n hi2, row_n hi1, row_n hi1]
      rw [e3]
      exact ih n' (by omega) (by omega)
theorem la141 {x q f : Nat} (hi : i < 3) (hx : x < 72) (hq : q < 12) {k : Mem → Option Mem} (h0 : M 3 (4 * x) = cel r 0) (h1 : M 3 (4 * x + 1) = cel r 1) (h2 : M 3 (4 * x + 2) = cel r 2) (h3 : M 3 (4 * x + 3) = cel r 3) : f_X11_lays_L141 fu (nI i) (nI x) (nI q) k (f + 5) (nI 0) M = k (row M 45 (pu4 (M 45) (48 * i + 4 * q) r)) := by
  simp (disch := omega) only [f_X11_lays_L141, lit, nI_add, pk_mul, pk_sub, nI_clamp, inb_nI, nI_leI, nI_ltI, nI_eq, add_m1, ↓reduceIte, grd_true, nm_d, jn_d, bd_some, bm_some, om_some, om_none, show ¬ 4 ≤ 0 by omega, show ¬ 4 ≤ 0 + 1 by omega, show ¬ 4 ≤ 0 + 1 + 1 by omega, show ¬ 4 ≤ 0 + 1 + 1 + 1 by omega, show 4 ≤ 0 + 1 + 1 + 1 + 1 by omega, up_n]
  rw [show 4 * (12 * i + q) = 48 * i + 4 * q by omega]
  simp only [Nat.zero_add, Nat.add_zero, Nat.add_assoc, Nat.reduceAdd, h0, h1, h2, h3, up_row, row_s, row_row, pu4]
  rfl
theorem lays_eq {x p : Nat} (hfu : 5000 ≤ fu) (hi : i < 3) (hs : m 19 i = nI w) (hw : w < 6) (hA : RS m i A) (hl : A.length < 12) (hR : RM m w R) (hr : R[p]? = some r) : f_X11_lays fu (nI i) (nI p) m = some (laM m i A r) := by
  have hp := gl_lt hr
  have h12 := hR.2.1
  have hle := pl_le (f := mkf A) (m := r.1) (n := A.length)
  have e := hA.2.2.plc (m := r.1)
  have emk := hR.mark hr
  have ec := fun c hc => hR.cell (c := c) hr hc
  simp (disch := omega) only [f_X11_lays, lit, nI_add, pk_mul, pk_sub, nI_clamp, inb_nI, nI_leI, nI_ltI, nI_eq, add_m1, ↓reduceIte, grd_true, nm_d, jn_d, bd_some, bm_some, om_some, om_none, hs, hA.1]
  have h2 := laL (M := m) (i := i) (F := m 44) (G := m 45) (x := 12 * w + p) (fu := fu) hfu hi hl (by omega) (k := fun (x4_5 : Int32) (M_6 : Mem) => grd (inb (nI 12 * nI i + x4_5) 36) (f_X11_lays_L141 fu (nI i) (nI (12 * w + p)) x4_5 (fun (M_11 : Mem) => some (up M_11 43 i (M_11 43 i + nI 1))) fu (nI 0) (up M_6 44 (nI 12 * nI i + x4_5).toNatClampNeg (M_6 2 (12 * w + p))))) A.length fu (Nat.le_refl _) (by omega)
  rw [shk_0, shk_0, row_self, row_self, emk] at h2
  simp (disch := omega) only [lit, nI_add, pk_mul, pk_sub, nI_clamp, inb_nI, nI_leI, nI_ltI, nI_eq, add_m1, ↓reduceIte, grd_true, nm_d, jn_d, bd_some, bm_some, om_some, om_none] at h2
  rw [h2, e]
  obtain ⟨f, rfl⟩ : ∃ f, fu = f + 5 := ⟨fu - 5, by omega⟩
  generalize hq : pl (mkf A) r.1 A.length = q at *
  have e5 := la141 (fu := f + 5) (f := f) (r := r) (i := i) (x := 12 * w + p) (q := q) (M := up (row (row m 44 (shk 1 (m 44) (12 * i + q) (12 * i + A.length))) 45 (shk 4 (m 45) (48 * i + 4 * q) (48 * i + 4 * A.length))) 44 (12 * i + q) r.1) (k := fun (M_11 : Mem) => some (up M_11 43 i (M_11 43 i + nI 1))) hi (by omega) (by omega) (by rw [up_n (by omega), row_n (by omega), row_n (by omega)]; exact ec 0 (by omega)) (by rw [up_n (by omega), row_n (by omega), row_n (by omega)]; exact ec 1 (by omega)) (by rw [up_n (by omega), row_n (by omega), row_n (by omega)]; exact ec 2 (by omega)) (by rw [up_n (by omega), row_n (by omega), row_n (by omega)]; exact ec 3 (by omega))
  simp (disch := omega) only [lit, nI_add, pk_mul, pk_sub, nI_clamp, inb_nI, nI_leI, nI_ltI, nI_eq, add_m1, ↓reduceIte, grd_true, nm_d, jn_d, bd_some, bm_some, om_some, om_none, row_n, emk, e5, up_n, hA.1, row_s]
  congr 1
  simp only [laM, hq]
  congr 1
  funext j
  by_cases h45 : j = 45
  · subst h45; rw [row_s, row_s]
  · rw [row_n h45, row_n h45]
    by_cases h44 : j = 44
    · subst h44; rw [up_r, row_n (by omega), row_s, row_s]
    · rw [up_n h44, row_n h45, row_n h44, row_n h44]
theorem laM_RS (h : RS m i A) (h1 : A.length < 12) : RS (laM m i A r) i (insR A r) := by
  refine ⟨by simp only [laM, insR_len]; rw [up_s], by rw [insR_len]; omega, ?_⟩
  have h2 := RV_ins (r := r) h.2.2 (pl_le (f := mkf A) (m := r.1) (n := A.length))
  simp only [laM]
  rw [up_n (by omega), up_n (by omega), row_s, row_n (by omega), row_s, off_upd, off_pu4, off_shk, off_shk]
  exact h2
theorem laM_RS' {i' : Nat} {A' : List Row} (h : RS m i' A') (hs : i' ≠ i) (h1 : A.length < 12) : RS (laM m i A r) i' A' := by
  have h12 := h.2.1
  have hl := pl_le (f := mkf A) (m := r.1) (n := A.length)
  refine ⟨by simp only [laM]; rw [up_m hs, row_n (by omega), row_n (by omega)]; exact h.1, h12, ?_⟩
  simp only [laM]
  rw [up_n (by omega), up_n (by omega), row_s, row_n (by omega), row_s]
  refine h.2.2.cg (fun i hi => ?_) (fun j hj => ?_)
  · simp only [off, upd, shk]
    rw [if_neg (by omega), if_neg (by omega)]
  · simp only [off]
    rw [pu4_no (by omega)]
    simp only [shk]
    rw [if_neg (by omega)]
theorem laM_n {j : Nat} (h : j ≠ 43 ∧ j ≠ 44 ∧ j ≠ 45) : laM m i A r j = m j := by
  simp only [laM]
  rw [up_n h.1, row_n h.2.2, row_n h.2.1]
end Seats
