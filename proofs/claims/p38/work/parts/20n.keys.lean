/-! ===== the keys: the law and the reference ===== -/
def KS (st : (Nat → Int32) × Nat) : Prop := ∀ x y, x < y → y < st.2 → st.1 x < st.1 y
def kmem (st : (Nat → Int32) × Nat) (v : Int32) : Prop := ∃ x, x < st.2 ∧ st.1 x = v
/-- whether a row for which the conditions hold has a cell -/
def hasC (m : Mem) (o nC c : Nat) (A : List Row) (v : Int32) (k : Nat) : Bool := match A[k]? with | some r => decide (cel r c = v) && al (hA m o r) nC | none => false
section KeysL
variable {fu i j s o c nS nL nC nO : Nat} {M m N n : Mem} {A F : List Row} {r : Row} {st : (Nat → Int32) × Nat} {v : Int32}
theorem kst_KS (h : KS st) : KS (kst c st r) := by
  simp only [kst]
  split
  · rename_i hh
    have hq := pl_le (f := st.1) (m := cel r c) (n := st.2)
    have hne : ∀ k, k < st.2 → st.1 k ≠ cel r c := fun k hk => kin_f hh.2 (Nat.zero_le _) hk
    have hpre := pl_pre (f := st.1) (w := cel r c) st.2
    have hlt := pl_lt (f := st.1) (w := cel r c) st.2
    generalize pl st.1 (cel r c) st.2 = q at hq hpre hlt ⊢
    have hlo : ∀ k, k < q → st.1 k < cel r c := fun k hk => by
      have h1 := hlt (by omega)
      have h2 := hne (q - 1) (by omega)
      by_cases hkq : k = q - 1
      · subst hkq; exact Int32.lt_of_le_of_ne h1 h2
      · exact Int32.lt_of_lt_of_le (h k (q - 1) (by omega) (by omega)) h1
    have hhi : ∀ k, q ≤ k → k < st.2 → cel r c < st.1 k := fun k h1 h2 => Int32.not_le.mp (hpre k h1 h2)
    intro x y hxy hy
    dsimp only at hy ⊢
    simp only [upd, shk]
    by_cases hxq : x = q
    · rw [if_pos hxq, if_neg (by omega), if_pos (by omega)]
      exact hhi _ (by omega) (by omega)
    · rw [if_neg hxq]
      by_cases hyq : y = q
      · rw [if_pos hyq, if_neg (by omega)]
        exact hlo _ (by omega)
      · rw [if_neg hyq]
        by_cases hx1 : q + 1 ≤ x ∧ x < st.2 + 1
        · rw [if_pos hx1, if_pos (by omega)]
          exact h (x - 1) (y - 1) (by omega) (by omega)
        · rw [if_neg hx1]
          by_cases hy1 : q + 1 ≤ y ∧ y < st.2 + 1
          · rw [if_pos hy1]
            by_cases hxy1 : x = y - 1
            · omega
            · exact h x (y - 1) (by omega) (by omega)
          · rw [if_neg hy1]
            exact h x y hxy (by omega)
  · exact h
theorem kst_mem : kmem (kst c st r) v ↔ kmem st v ∨ (cel r c = v ∧ f_X10_isNumber (cel r c) ≠ nI 0) := by
  simp only [kst]
  split
  · rename_i hh
    have hq := pl_le (f := st.1) (m := cel r c) (n := st.2)
    generalize pl st.1 (cel r c) st.2 = q at hq ⊢
    constructor
    · rintro ⟨x, hx, hv⟩
      dsimp only at hx hv
      simp only [upd, shk] at hv
      by_cases hxq : x = q
      · rw [if_pos hxq] at hv; exact Or.inr ⟨hv, hh.1⟩
      · rw [if_neg hxq] at hv
        left
        by_cases hx1 : q + 1 ≤ x ∧ x < st.2 + 1
        · rw [if_pos hx1] at hv; exact ⟨x - 1, by omega, hv⟩
        · rw [if_neg hx1] at hv; exact ⟨x, by omega, hv⟩
    · rintro (⟨x, hx, hv⟩ | ⟨hv, _⟩)
      · by_cases hxq : x < q
        · refine ⟨x, by dsimp only; omega, ?_⟩
          dsimp only
          simp only [upd, shk]
          rw [if_neg (by omega), if_neg (by omega)]; exact hv
        · refine ⟨x + 1, by dsimp only; omega, ?_⟩
          dsimp only
          simp only [upd, shk]
          rw [if_neg (by omega), if_pos (by omega), show x + 1 - 1 = x by omega]; exact hv
      · refine ⟨q, by dsimp only; omega, ?_⟩
        dsimp only
        show (if q = q then cel r c else shk 1 st.1 q st.2 q) = v
        rw [if_pos rfl]; exact hv
  · rename_i hh
    constructor
    · exact Or.inl
    · rintro (h | ⟨h1, h2⟩)
      · exact h
      · have h3 : kin st.1 (cel r c) 0 st.2 = true := by
          cases hk : kin st.1 (cel r c) 0 st.2 with
          | true => rfl
          | false => exact absurd ⟨h2, hk⟩ hh
        obtain ⟨x, x1, x2⟩ := an_ex h3
        simp at x2
        exact ⟨x, x1, by rw [x2, h1]⟩
theorem fold_KS : ∀ (F : List Row) (st : (Nat → Int32) × Nat), KS st → KS (F.foldl (kst c) st) ∧ ∀ v, (kmem (F.foldl (kst c) st) v ↔ kmem st v ∨ ∃ r ∈ F, cel r c = v ∧ f_X10_isNumber (cel r c) ≠ nI 0) := by
  intro F
  induction F with
  | nil => intro st h; exact ⟨h, fun v => by simp⟩
  | cons r F ih =>
    intro st h
    obtain ⟨h1, h2⟩ := ih (kst c st r) (kst_KS h)
    simp only [List.foldl_cons]
    refine ⟨h1, fun v => ?_⟩
    rw [h2 v, kst_mem]
    constructor
    · rintro ((h | h) | ⟨r', h3, h4⟩)
      · exact Or.inl h
      · exact Or.inr ⟨r, by simp, h⟩
      · exact Or.inr ⟨r', by simp [h3], h4⟩
    · rintro (h | ⟨r', h3, h4⟩)
      · exact Or.inl (Or.inl h)
      · simp only [List.mem_cons] at h3
        rcases h3 with rfl | h3
        · exact Or.inl (Or.inr h4)
        · exact Or.inr ⟨r', h3, h4⟩
theorem num_b (hv : okc v) (h : f_X10_isNumber v ≠ nI 0) : -999 ≤ v.toInt ∧ v.toInt ≤ 999 := by
  have h0 : ¬ f_X10_isNumber v = 0 := h
  rw [num0] at h0
  rcases hv with rfl | rfl | ⟨h1, h2⟩
  · exact absurd (Or.inl rfl) h0
  · exact absurd (Or.inr rfl) h0
  · rw [i_le] at h1 h2
    exact ⟨h1, h2⟩
theorem b_num (h1 : -999 ≤ v.toInt) (h2 : v.toInt ≤ 999) : f_X10_isNumber v ≠ nI 0 := by
  show ¬ f_X10_isNumber v = 0
  rw [num0]
  rintro (rfl | rfl)
  · exact absurd h2 (by decide)
  · exact absurd h2 (by decide)
theorem key365 {x24 : Int32} {k434 : Int32 → Option Mem} (hfu : 5000 ≤ fu) (ho : o < nS) (hc : c < 4) (hD : DL M m nS nL nC nO) (hG : DG m nS nL nC nO) (hAA : RWa M 149 150 o A) (hk : okW A) : ∀ d p n, p + d = A.length → d < n → f_L_take_L365 fu (nI o) (nI c) x24 M k434 n (bI (an (hasC m o nC c A x24) p)) (nI p) = k434 (bI (an (hasC m o nC c A x24) A.length)) := by
  have hS3 := hG.1.2
  have hl := hAA.2.1
  intro d
  induction d with
  | zero =>
    intro p n h1 h2
    obtain ⟨n, rfl⟩ := fu1 h2
    obtain rfl : p = A.length := by omega
    simp (disch := omega) only [f_L_take_L365, inb_nI, grd_true, nI_clamp, hAA.1, nI_leI, Nat.le_refl, if_true]
  | succ d ih =>
    intro p n h1 h2
    obtain ⟨n, rfl⟩ := fu1 h2
    have h6 : ¬ A.length ≤ p := by omega
    obtain ⟨r, hr⟩ := gl_some (R := A) (i := p) (by omega)
    have e1 : (10 : Int32) * nI o + nI p = nI (10 * o + p) := by rw [show (10 : Int32) = nI 10 from rfl, pk_mul, nI_add]
    have hh : f_L_hold fu (nI o) (pk r) 1 M = some (bI (al (hA m o r) nC)) := lhold_eq (all := true) hfu hD hG ho (hk.at hr).1 (hk.at hr).2
    simp (disch := omega) only [f_L_take_L365, inb_nI, grd_true, nI_clamp, hAA.1, nI_leI, h6, if_false, e1, hAA.2.2 p r hr, at_pk (hk.at hr).1 (hk.at hr).2 hc, nm_d, jn_d, nI_1, hh, bd_some, bI_nz]
    have go : ∀ b : Bool, b = hasC m o nC c A x24 p → f_L_take_L365 fu (nI o) (nI c) x24 M k434 n (bI (an (hasC m o nC c A x24) p) ||| bI b) (nI (p + 1)) = k434 (bI (an (hasC m o nC c A x24) A.length)) := fun b hb => by
      have : bI (an (hasC m o nC c A x24) p) ||| bI b = bI (an (hasC m o nC c A x24) (p + 1)) := by
        simp only [an, ← hb]
        cases an (hasC m o nC c A x24) p <;> cases b <;> decide
      rw [this]
      exact ih (p + 1) n (by omega) (by omega)
    by_cases hv : cel r c = x24
    · rw [if_pos hv]
      by_cases ha : al (hA m o r) nC = false
      · rw [if_pos ha]; exact go false (by simp [hasC, hr, ha])
      · rw [if_neg ha]
        exact go true (by simp [hasC, hr, hv]; simpa using ha)
    · rw [if_neg hv]
      exact go false (by simp [hasC, hr, hv])
theorem vj {j : Nat} (hj : j ≤ 1999) : (nI j - 999).toInt = (j : Int) - 999 := by
  show (nI j - nI 999).toInt = _
  rw [pk_sub_toInt (by omega) (by omega)]
  rfl
theorem key351 {k458 : Int32 → Mem → Option Mem} (hfu : 5000 ≤ fu) (ho : o < nS) (hc : c < 4) (hD : DL M m nS nL nC nO) (hG : DG m nS nL nC nO) (hAA : RWa M 149 150 o A) (hk : okW A) (hs : KS st) (hK : st.2 ≤ 10) (hb : ∀ x, x < st.2 → -999 ≤ (st.1 x).toInt ∧ (st.1 x).toInt ≤ 999) (hP : ∀ v : Int32, -999 ≤ v.toInt → v.toInt ≤ 999 → (an (hasC m o nC c A v) A.length = true ↔ kmem st v)) : ∀ (d j n q : Nat) (N : Mem), j + d = 1999 → d < n → q ≤ st.2 → (∀ a, a ≠ 157 → N a = M a) → (∀ x, x < q → N 157 x = st.1 x ∧ (st.1 x).toInt < (j : Int) - 999) → (∀ x, q ≤ x → x < st.2 → (j : Int) - 999 ≤ (st.1 x).toInt) →
    ∃ N', f_L_take_L351 fu (nI o) (nI c) k458 n (nI q) (nI j - 999) N = k458 (nI st.2) N' ∧ (∀ a, a ≠ 157 → N' a = M a) ∧ ∀ x, x < st.2 → N' 157 x = st.1 x := by
  intro d
  induction d with
  | zero =>
    intro j n q N h1 h2 hq h3 h4 h5
    obtain ⟨n, rfl⟩ := fu1 h2
    obtain rfl : j = 1999 := by omega
    have hqK : q = st.2 := by
      by_cases hlt : q < st.2
      · have a1 := h5 q (Nat.le_refl _) hlt
        have a2 := (hb q hlt).2
        omega
      · omega
    subst hqK
    refine ⟨N, ?_, h3, fun x hx => (h4 x hx).1⟩
    simp only [f_L_take_L351]
    rw [if_pos (by decide)]
  | succ d ih =>
    intro j n q N h1 h2 hq h3 h4 h5
    obtain ⟨n, rfl⟩ := fu1 h2
    have hj : j ≤ 1998 := by omega
    have e0 : ¬ (1000 : Int32) ≤ nI j - 999 := by
      rw [i_le, vj (by omega)]
      have : (1000 : Int32).toInt = 1000 := by decide
      omega
    have e1 : nI j - 999 + 1 = nI (j + 1) - 999 := by rw [← nI_1]; grind
    have hAN : RWa N 149 150 o A := hAA.cg2 (h3 150 (by omega)) (h3 149 (by omega))
    have hDN : DL N m nS nL nC nO := hD.cg (h3 146 (by omega)) (fun _ _ _ => rfl) rfl rfl
    have h365 := fun (k434 : Int32 → Option Mem) => key365 (fu := fu) (x24 := nI j - 999) (k434 := k434) hfu ho hc hDN hG hAN hk A.length 0 fu (by omega) (by have := hAA.2.1; omega)
    have hPj := hP (nI j - 999) (by rw [vj (by omega)]; omega) (by rw [vj (by omega)]; omega)
    simp only [f_L_take_L351, if_neg e0, jn_d, nm_d, e1, nI_1]
    have h365' := h365 (fun (x25_61 : Int32) => (if x25_61 = 0 then f_L_take_L351 fu (nI o) (nI c) k458 n (nI q) (nI (j + 1) - 999) N else grd (inb (nI q) 10) (f_L_take_L351 fu (nI o) (nI c) k458 n (nI (q + 1)) (nI (j + 1) - 999) (up N 157 (nI q).toNatClampNeg (nI j - 999)))))
    cases hhas : an (hasC m o nC c A (nI j - 999)) A.length with
    | false =>
      have hno : ¬ kmem st (nI j - 999) := fun z => by rw [← hPj, hhas] at z; cases z
      obtain ⟨N', g1, g2, g3⟩ := ih (j + 1) n q N (by omega) (by omega) hq h3 (fun x hx => ⟨(h4 x hx).1, by have := (h4 x hx).2; omega⟩) (fun x hx1 hx2 => by
        have a1 := h5 x hx1 hx2
        have a2 : (st.1 x).toInt ≠ (j : Int) - 999 := fun z => hno ⟨x, hx2, by rw [i_eq, vj (by omega)]; exact z⟩
        omega)
      refine ⟨N', Eq.trans h365' ?_, g2, g3⟩
      rw [hhas, if_pos (show bI false = 0 from rfl)]
      exact g1
    | true =>
      obtain ⟨x, x1, x2⟩ := hPj.mp hhas
      have hx2 : (st.1 x).toInt = (j : Int) - 999 := by rw [x2, vj (by omega)]
      have hxq : q ≤ x := by
        by_cases hlt : x < q
        · have := (h4 x hlt).2; omega
        · omega
      have hxq2 : x = q := by
        by_cases hlt : q < x
        · have a1 := hs q x hlt x1
          rw [i_lt] at a1
          have a2 := h5 q (Nat.le_refl _) (by omega)
          omega
        · omega
      subst hxq2
      obtain ⟨N', g1, g2, g3⟩ := ih (j + 1) n (x + 1) (up N 157 x (nI j - 999)) (by omega) (by omega) (by omega) (fun a ha => by rw [up_n ha, h3 a ha]) (fun y hy => by
        by_cases hyx : y = x
        · subst hyx
          rw [up_s]
          exact ⟨x2.symm, by omega⟩
        · rw [up_m hyx]
          have := h4 y (by omega)
          exact ⟨this.1, by omega⟩) (fun y hy1 hy2 => by
        have a1 := hs x y (by omega) hy2
        rw [i_lt] at a1
        omega)
      refine ⟨N', Eq.trans h365' ?_, g2, g3⟩
      rw [hhas, if_neg (show ¬ bI true = 0 by decide), inb_nI (by omega) (by omega), grd_true, nI_clamp (by omega)]
      exact g1
/-- the keys that the law finds are those that the reference lays -/
theorem keys_L {k458 : Int32 → Mem → Option Mem} (hfu : 5000 ≤ fu) (ho : o < nS) (hc : c < 4) (hD : DL M m nS nL nC nO) (hG : DG m nS nL nC nO) (hAA : SL M m o A) : ∃ N n K, f_L_take_L351 fu (nI o) (nI c) k458 fu 0 (-999) M = k458 (nI K) N ∧ f_X11_laysKeys fu (nI o) (nI c) m = some n ∧ K ≤ 10 ∧ KD (n 48, K) ∧ n 0 63 = nI K ∧ (∀ x, x < K → N 157 x = n 48 x) ∧ (∀ a, a ≠ 157 → N a = M a) ∧ (∀ a, a ≠ 0 → a ≠ 48 → n a = m a) ∧ ∀ j, j ≠ 63 → n 0 j = m 0 j := by
  have hS3 := hG.1.2
  have hokR : okR A := fun r hr => (hAA.2.2 r hr).2
  obtain ⟨n, e1, e2, e3, e4, e5⟩ := mlays_eq (fu := fu) hfu (show o < 3 by omega) hc hokR hG hAA.2.1
  let F := A.filter (fun r => al (hA m o r) nC)
  have hF : A.filter (fun r => al (hA m o r) nC) = F := rfl
  rw [hF] at e2 e3
  have hl : F.length ≤ A.length := List.length_filter_le _ _
  obtain ⟨s1, s2⟩ := fold_KS (c := c) F (m 48, 0) (fun x y _ h => by cases h)
  obtain ⟨s3, s4⟩ := fold_KD (c := c) F (m 48, 0) (fun x y _ h => by cases h)
  have hA10 := hAA.1.2.1
  generalize F.foldl (kst c) (m 48, 0) = st at e2 e3 s1 s2 s3 s4
  have hno : ∀ v, ¬ kmem (m 48, 0) v := fun v ⟨x, hx, _⟩ => by cases hx
  have hFA : ∀ r, r ∈ F ↔ r ∈ A ∧ al (hA m o r) nC = true := fun r => by simp [F]
  have hb : ∀ x, x < st.2 → -999 ≤ (st.1 x).toInt ∧ (st.1 x).toInt ≤ 999 := fun x hx => by
    rcases (s2 (st.1 x)).mp ⟨x, hx, rfl⟩ with h | ⟨r, h1, h2, h3⟩
    · exact absurd h (hno _)
    · rw [← h2]
      exact num_b (hokR r ((hFA r).mp h1).1 c hc) h3
  obtain ⟨N, g1, g2, g3⟩ := key351 (fu := fu) (k458 := k458) hfu ho hc hD hG hAA.1 hAA.2.2 s1 (by simp at s4; omega) hb (fun v h1 h2 => by
    rw [s2 v]
    constructor
    · intro h
      obtain ⟨k, k1, k2⟩ := an_ex h
      right
      simp only [hasC] at k2
      cases hr : A[k]? with
      | none => rw [hr] at k2; cases k2
      | some r =>
        rw [hr] at k2
        simp only [Bool.and_eq_true, decide_eq_true_eq] at k2
        exact ⟨r, (hFA r).mpr ⟨List.mem_of_getElem? hr, k2.2⟩, k2.1, by rw [k2.1]; exact b_num h1 h2⟩
    · rintro (h | ⟨r, h3, h4, _⟩)
      · exact absurd h (hno _)
      · obtain ⟨ha, hb'⟩ := (hFA r).mp h3
        obtain ⟨k, hk⟩ := List.mem_iff_getElem?.mp ha
        exact an_t (k := k) (by simp only [hasC, hk, h4, hb', decide_true, Bool.and_self]) (gl_lt hk)) 1999 0 fu 0 M (by omega) (by omega) (Nat.zero_le _) (fun _ _ => rfl) (fun x hx => by omega) (fun x _ hx => by have := (hb x hx).1; omega)
  refine ⟨N, n, st.2, ?_, e1, by simp at s4; omega, ?_, e3, fun x hx => by rw [e2]; exact g3 x hx, g2, e4, e5⟩
  · rw [← g1]
    rfl
  · rw [e2]; exact s3
end KeysL
