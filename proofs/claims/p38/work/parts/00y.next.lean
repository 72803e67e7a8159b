/-! ===== served; guesses; links; the next seat ===== -/
def gss (m : Mem) (i nC z : Nat) : Nat := max 1 (z / 2 ^ ct (snt m i) nC)
/-- the first from k on, of d -/
def fro (P : Nat → Bool) : Nat → Nat → Option Nat
  | _, 0 => none
  | k, d + 1 => if P k = true then some k else fro P (k + 1) d
def lkd (m : Mem) (tk : Nat → Bool) (i l : Nat) : Bool := (decide (m 20 l = nI i) && tk (m 22 l).toNatClampNeg) || (decide (m 22 l = nI i) && tk (m 20 l).toNatClampNeg)
def enI (m : Mem) (i : Nat) (o : Option Nat) : Int32 := match o with | none => -nI 1 | some l => if m 20 l = nI i then nI (2 * l) else nI (2 * l + 1)
def TK (M m : Mem) (tk : Nat → Bool) (p : Nat) : Prop := (M 90 12 = nI p ∧ m 0 83 = nI p ∧ p ≤ 3) ∧ (∀ j, j < 3 → m 42 j = bI (tk j)) ∧ ∀ j, j < 3 → an (fun x => decide (M 93 x = nI j)) p = tk j
section Next
variable {fu nS nL nC nO i s t e z p : Nat} {M m N n : Mem} {E : Ent} {tk : Nat → Bool}
theorem serves14 {k : Mem → Option Mem} (he : e < 6) (hi : i < 3) : ∀ d c n, c + d = 12 → d < n → f_X11_serves_L14 fu (nI e) (nI i) k n (nI c) (row M 44 (va_cpy (M 36) (M 44) (12 * e) (12 * i) c)) = k (row M 44 (va_cpy (M 36) (M 44) (12 * e) (12 * i) 12)) := by
  intro d
  induction d with
  | zero =>
    intro c n h1 h2
    obtain ⟨n, rfl⟩ := fu1 h2
    obtain rfl : c = 12 := by omega
    simp (disch := omega) only [f_X11_serves_L14, lit, nI_add, pk_mul, pk_sub, nI_clamp, inb_nI, nI_leI, nI_ltI, nI_eq, add_m1, ↓reduceIte, grd_true, nm_d, jn_d, bd_some, bm_some, om_some, om_none, Nat.le_refl]
  | succ d ih =>
    intro c n h1 h2
    obtain ⟨n, rfl⟩ := fu1 h2
    have hc : ¬ 12 ≤ c := by omega
    simp (disch := omega) only [f_X11_serves_L14, lit, nI_add, pk_mul, pk_sub, nI_clamp, inb_nI, nI_leI, nI_ltI, nI_eq, add_m1, ↓reduceIte, grd_true, nm_d, jn_d, bd_some, bm_some, om_some, om_none, row_n, hc]
    rw [up_row, row_s, row_row, cp_s]
    exact ih (c + 1) n (by omega) (by omega)
theorem serves50 {k : Mem → Option Mem} (he : e < 6) (hi : i < 3) : ∀ d c n, c + d = 48 → d < n → f_X11_serves_L50 fu (nI e) (nI i) k n (nI c) (row M 45 (va_cpy (M 37) (M 45) (48 * e) (48 * i) c)) = k (row M 45 (va_cpy (M 37) (M 45) (48 * e) (48 * i) 48)) := by
  intro d
  induction d with
  | zero =>
    intro c n h1 h2
    obtain ⟨n, rfl⟩ := fu1 h2
    obtain rfl : c = 48 := by omega
    simp (disch := omega) only [f_X11_serves_L50, lit, nI_add, pk_mul, pk_sub, nI_clamp, inb_nI, nI_leI, nI_ltI, nI_eq, add_m1, ↓reduceIte, grd_true, nm_d, jn_d, bd_some, bm_some, om_some, om_none, Nat.le_refl]
  | succ d ih =>
    intro c n h1 h2
    obtain ⟨n, rfl⟩ := fu1 h2
    have hc : ¬ 48 ≤ c := by omega
    simp (disch := omega) only [f_X11_serves_L50, lit, nI_add, pk_mul, pk_sub, nI_clamp, inb_nI, nI_leI, nI_ltI, nI_eq, add_m1, ↓reduceIte, grd_true, nm_d, jn_d, bd_some, bm_some, om_some, om_none, row_n, hc]
    rw [up_row, row_s, row_row, cp_s]
    exact ih (c + 1) n (by omega) (by omega)
theorem serves_eq (hfu : 5000 ≤ fu) (he : e < 6) (hi : i < 3) (hE : EM1 m e E) : ∃ N, f_X11_serves fu (nI e) (nI i) m = some N ∧ RS N i E.2.2.2.2.2.2 ∧ N 46 = upd (m 46) i E.2.2.1 ∧ N 47 = upd (m 47) i (if nn E.2.2.2.1 = -1 then m 0 7 else nn E.2.2.2.1) ∧ (∀ a, a ≠ 43 → a ≠ 44 → a ≠ 45 → a ≠ 46 → a ≠ 47 → N a = m a) ∧ RSo i N m := by
  obtain ⟨⟨b1, b2, b3, b4, b5, b6⟩, ⟨c1, c2, c3⟩, d1, d2, d3⟩ := hE
  have q1 := serves14 (fu := fu) (e := e) (i := i) (M := up m 43 i (nI E.2.2.2.2.2.2.length)) (k := fun (M_5 : Mem) => f_X11_serves_L50 fu (nI e) (nI i) (fun (M_7 : Mem) => some (up (up M_7 46 i (M_7 32 e)) 47 i (if up M_7 46 i (M_7 32 e) 33 e = -1 then up M_7 46 i (M_7 32 e) 0 7 else up M_7 46 i (M_7 32 e) 33 e))) fu 0 M_5) he hi 12 0 fu (by omega) (by omega)
  rw [cp_0, row_self] at q1
  generalize hP : row (up m 43 i (nI E.2.2.2.2.2.2.length)) 44 (va_cpy (up m 43 i (nI E.2.2.2.2.2.2.length) 36) (up m 43 i (nI E.2.2.2.2.2.2.length) 44) (12 * e) (12 * i) 12) = P at q1
  have q2 := serves50 (fu := fu) (e := e) (i := i) (M := P) (k := fun (M_7 : Mem) => some (up (up M_7 46 i (M_7 32 e)) 47 i (if up M_7 46 i (M_7 32 e) 33 e = -1 then up M_7 46 i (M_7 32 e) 0 7 else up M_7 46 i (M_7 32 e) 33 e))) he hi 48 0 fu (by omega) (by omega)
  rw [cp_0, row_self] at q2
  have fP : ∀ a, a ≠ 43 → a ≠ 44 → P a = m a := fun a h1 h2 => by rw [← hP, row_n h2, up_n h1]
  generalize hQ : row P 45 (va_cpy (P 37) (P 45) (48 * e) (48 * i) 48) = Q at q2
  have fQ : ∀ a, a ≠ 43 → a ≠ 44 → a ≠ 45 → Q a = m a := fun a h1 h2 h3 => by rw [← hQ, row_n h3, fP a h1 h2]
  have Q43 : Q 43 = upd (m 43) i (nI E.2.2.2.2.2.2.length) := by rw [← hQ, row_n (by omega), ← hP, row_n (by omega), up_r]
  have Q44 : Q 44 = va_cpy (m 36) (m 44) (12 * e) (12 * i) 12 := by rw [← hQ, row_n (by omega), ← hP, row_s, up_n (by omega), up_n (by omega)]
  have Q45 : Q 45 = va_cpy (m 37) (m 45) (48 * e) (48 * i) 48 := by rw [← hQ, row_s, fP 37 (by omega) (by omega), fP 45 (by omega) (by omega)]
  refine ⟨up (up Q 46 i (m 32 e)) 47 i (if m 33 e = -1 then m 0 7 else m 33 e), ?_, ⟨?_, c2, ?_⟩, ?_, ?_, fun a h1 h2 h3 h4 h5 => by rw [up_n h5, up_n h4, fQ a h1 h2 h3], fun i' A' hi' hne hA => ?_⟩
  · have e0 : f_X11_serves fu (nI e) (nI i) m = f_X11_serves_L14 fu (nI e) (nI i) (fun (M_5 : Mem) => f_X11_serves_L50 fu (nI e) (nI i) (fun (M_7 : Mem) => some (up (up M_7 46 i (M_7 32 e)) 47 i (if up M_7 46 i (M_7 32 e) 33 e = -1 then up M_7 46 i (M_7 32 e) 0 7 else up M_7 46 i (M_7 32 e) 33 e))) fu 0 M_5) fu 0 (up m 43 i (nI E.2.2.2.2.2.2.length)) := by
      simp (disch := omega) only [f_X11_serves, inb_nI, grd_true, nI_clamp, nm_d, jn_d, c1]
    rw [e0]
    refine q1.trans (q2.trans ?_)
    rw [up_n (show 33 ≠ 46 by omega), up_n (show 0 ≠ 46 by omega), fQ 32 (by omega) (by omega) (by omega), fQ 33 (by omega) (by omega) (by omega), fQ 0 (by omega) (by omega) (by omega)]
  · rw [up_n (by omega), up_n (by omega), Q43, pk_us]
  · rw [up_n (by omega), up_n (by omega), up_n (by omega), up_n (by omega), Q44, Q45]
    refine c3.cg (fun x hx => ?_) (fun x hx => ?_)
    · simp only [off]; rw [pk_cpy_in (by omega) (by omega)]; congr 1; omega
    · simp only [off]; rw [pk_cpy_in (by omega) (by omega)]; congr 1; omega
  · rw [up_n (by omega), up_r, fQ 46 (by omega) (by omega) (by omega), b4]
  · rw [up_r, up_n (by omega), fQ 47 (by omega) (by omega) (by omega), b5]
  · obtain ⟨z1, z2, z3⟩ := hA
    refine ⟨?_, z2, ?_⟩
    · rw [up_n (by omega), up_n (by omega), Q43, pk_un hne]; exact z1
    · rw [up_n (by omega), up_n (by omega), up_n (by omega), up_n (by omega), Q44, Q45]
      refine z3.cg (fun x hx => ?_) (fun x hx => ?_)
      · simp only [off]; rw [pk_cpy_out (by omega)]
      · simp only [off]; rw [pk_cpy_out (by omega)]
/-! guesses -/
theorem shr5 : ∀ k : Fin 5, ((nI k &&& nI 31).toBitVec.smod 32).toNat = k := by decide +kernel
theorem guessOf_eq (hfu : 5000 ≤ fu) (hD : DR M m) (hG : DG m nS nL nC nO) (hi : i < 3) (hs : m 19 i = nI s) (hs6 : s < 6) (h59 : M 59 = m 18) (hz : m 18 s = nI z) (hzb : z < 2 ^ 20) : f_X1_guessOf fu (nI i) M = some (nI (gss m i nC z)) := by
  have hsrc : M 81 i = nI s := by rw [hD.2.1.1]; exact hs
  have hk : ct (snt m i) nC < 5 := by have := ct_le (P := snt m i) (n := nC); have := hG.2.2.1.2; omega
  have hsh := pk_shrN (n := z) (by omega) (nI (ct (snt m i) nC) &&& nI 31) (ct (snt m i) nC) (shr5 ⟨_, hk⟩)
  simp (disch := omega) only [f_X1_guessOf, lit, inb_nI, grd_true, nI_clamp, hsrc, h59, hz, sentOf_eq hfu hD hG hi, bd_some, hsh]
  have hle : z / 2 ^ ct (snt m i) nC ≤ z := Nat.div_le_self _ _
  simp only [gss]
  have e : (nI 1 < nI (z / 2 ^ ct (snt m i) nC)) = (1 < z / 2 ^ ct (snt m i) nC) := propext (nI_ltI (by omega) (by omega))
  simp only [e]
  split
  · congr 2; omega
  · congr 2; omega
theorem guessL {k : Int32 → Option Int32} : ∀ d z n, d < n → d ≤ 4 → z < 2 ^ 20 → f_X11_guess_L18 fu k n (nI z) (nI d) = k (nI (z / 2 ^ d)) := by
  intro d
  induction d with
  | zero =>
    intro z n h1 h2 h3
    obtain ⟨n, rfl⟩ := fu1 h1
    simp (disch := omega) only [f_X11_guess_L18, lit, nI_add, pk_mul, pk_sub, nI_clamp, inb_nI, nI_leI, nI_ltI, nI_eq, add_m1, ↓reduceIte, grd_true, nm_d, jn_d, bd_some, bm_some, om_some, om_none, Nat.le_refl, Nat.pow_zero, Nat.div_one]
  | succ d ih =>
    intro z n h1 h2 h3
    obtain ⟨n, rfl⟩ := fu1 h1
    have h4 : ¬ d + 1 ≤ 0 := by omega
    simp (disch := omega) only [f_X11_guess_L18, lit, nI_add, pk_mul, pk_sub, nI_clamp, inb_nI, nI_leI, nI_ltI, nI_eq, add_m1, ↓reduceIte, grd_true, nm_d, jn_d, bd_some, bm_some, om_some, om_none, h4, pk_div, Nat.add_sub_cancel]
    rw [ih (z / 2) n (by omega) (by omega) (by omega), Nat.div_div_eq_div_mul, Nat.pow_succ, Nat.mul_comm]
theorem guess_eq (hfu : 5000 ≤ fu) (hG : DG m nS nL nC nO) (hi : i < 3) (hs : m 19 i = nI s) (hs6 : s < 6) (hz : m 18 s = nI z) (hzb : z < 2 ^ 20) : f_X11_guess fu (nI i) m = some (nI (gss m i nC z)) := by
  have hk : ct (snt m i) nC < 5 := by have := ct_le (P := snt m i) (n := nC); have := hG.2.2.1.2; omega
  have hle : z / 2 ^ ct (snt m i) nC ≤ z := Nat.div_le_self _ _
  simp (disch := omega) only [f_X11_guess, lit, inb_nI, grd_true, nI_clamp, nm_d, jn_d, hs, hz, manySent_eq hfu hG hi, bd_some, guessL]
  have e : (nI 1 ≤ nI (z / 2 ^ ct (snt m i) nC)) = (1 ≤ z / 2 ^ ct (snt m i) nC) := propext (nI_leI (by omega) (by omega))
  simp only [gss, e]
  split
  · congr 2; omega
  · congr 2; omega
/-! links -/
theorem isTakenL (h : TK M m tk p) {j : Nat} (hj : j < 3) : ∀ d x n, x + d = p → d < n → an (fun x => decide (M 93 x = nI j)) x = false → f_X1_isTaken_L2 fu (nI j) M n (nI x) = some (bI (tk j)) := by
  obtain ⟨⟨h1, h2, h3⟩, h4, h5⟩ := h
  intro d
  induction d with
  | zero =>
    intro x n e1 e2 e3
    obtain ⟨n, rfl⟩ := fu1 e2
    obtain rfl : x = p := by omega
    simp (disch := omega) only [f_X1_isTaken_L2, h1, lit, nI_add, pk_mul, pk_sub, nI_clamp, inb_nI, nI_leI, nI_ltI, nI_eq, add_m1, ↓reduceIte, grd_true, nm_d, jn_d, bd_some, bm_some, om_some, om_none, Nat.le_refl, ← h5 j hj, e3]
    rfl
  | succ d ih =>
    intro x n e1 e2 e3
    obtain ⟨n, rfl⟩ := fu1 e2
    have e4 : ¬ p ≤ x := by omega
    simp (disch := omega) only [f_X1_isTaken_L2, h1, lit, nI_add, pk_mul, pk_sub, nI_clamp, inb_nI, nI_leI, nI_ltI, nI_eq, add_m1, ↓reduceIte, grd_true, nm_d, jn_d, bd_some, bm_some, om_some, om_none, e4]
    by_cases e5 : M 93 x = nI j
    · rw [if_pos e5, ← h5 j hj, an_t (k := x) (by simp [e5]) (by omega)]
      rfl
    · rw [if_neg e5]
      exact ih (x + 1) n (by omega) (by omega) (by simp [an, e3, e5])
theorem isTaken_eq (hfu : 5000 ≤ fu) (h : TK M m tk p) {j : Nat} (hj : j < 3) : f_X1_isTaken fu (nI j) M = some (bI (tk j)) := isTakenL h hj p 0 fu (by omega) (by have := h.1.2.2; omega) rfl
theorem xor1 : ∀ l : Fin 3, nI (2 * l) ^^^ nI 1 = nI (2 * l + 1) ∧ nI (2 * l + 1) ^^^ nI 1 = nI (2 * l) := by decide +kernel
theorem fro_lt {P : Nat → Bool} {k d l : Nat} (h : fro P k d = some l) : k ≤ l ∧ l < k + d ∧ P l = true := by
  induction d generalizing k with
  | zero => cases h
  | succ d ih =>
    simp only [fro] at h
    split at h
    · cases h; exact ⟨by omega, by omega, by assumption⟩
    · have := ih h; exact ⟨by omega, by omega, this.2.2⟩
theorem lkF (hG : DG m nS nL nC nO) (hD : DR M m) {l : Nat} (hl : l < nL) (hi : i < 3) : ∃ a b c d, M 82 (2 * l) = nI a ∧ M 82 (2 * l + 1) = nI b ∧ M 83 (2 * l) = nI c ∧ M 83 (2 * l + 1) = nI d ∧ m 20 l = nI a ∧ m 22 l = nI b ∧ m 21 l = nI c ∧ m 23 l = nI d ∧ a < b ∧ b < nS ∧ c < 4 ∧ d < 4 ∧ ((nI a = nI i) = (a = i)) ∧ ((nI b = nI i) = (b = i)) ∧ lkd m tk i l = ((decide (a = i) && tk b) || (decide (b = i) && tk a)) := by
  have hb := hG.2.1.2
  have hS3 := hG.1.2
  obtain ⟨a, b, c, dd, q1, q2, q3, q4, q5, q6, q7, q8⟩ := hG.2.2.2.2.2.2.2.1 l hl
  obtain ⟨r1, r2, r3, r4⟩ := hD.2.2 l (by omega)
  have hA : (nI a = nI i) = (a = i) := propext (nI_eq (by omega) (by omega))
  have hB : (nI b = nI i) = (b = i) := propext (nI_eq (by omega) (by omega))
  refine ⟨a, b, c, dd, by rw [r1, q1], by rw [r3, q2], by rw [r2, q3], by rw [r4, q4], q1, q2, q3, q4, q5, q6, q7, q8, hA, hB, ?_⟩
  simp only [lkd, q1, q2]
  rw [nI_clamp (by omega), nI_clamp (by omega)]
  simp only [hA, hB]
theorem endEven (hfu : 5000 ≤ fu) (hD : DR M m) (hG : DG m nS nL nC nO) (hT : TK M m tk p) (hi : i < 3) {l a b n : Nat} (hl : l < nL) (r1 : M 82 (2 * l) = nI a) (r3 : M 82 (2 * l + 1) = nI b) (ha : a < 3) (hb : b < 3) : f_X1_endOf_L2 fu (nI i) M (n + 1) (nI (2 * l)) = (if a = i then (if tk b = false then f_X1_endOf_L2 fu (nI i) M n (nI (2 * l + 1)) else some (nI (2 * l))) else f_X1_endOf_L2 fu (nI i) M n (nI (2 * l + 1))) := by
  have hb3 := hG.2.1.2
  have h3 : ¬ 2 * nL ≤ 2 * l := by omega
  have x1 := (xor1 ⟨l, by omega⟩).1
  dsimp only at x1
  simp (disch := omega) only [f_X1_endOf_L2, hD.1.2.1, hG.2.1.1, lit, nI_add, pk_mul, pk_sub, nI_clamp, inb_nI, nI_leI, nI_ltI, nI_eq, add_m1, ↓reduceIte, grd_true, nm_d, jn_d, bd_some, bm_some, om_some, om_none, h3, r1, x1, r3, isTaken_eq hfu hT hb, bI_0]
theorem endOdd (hfu : 5000 ≤ fu) (hD : DR M m) (hG : DG m nS nL nC nO) (hT : TK M m tk p) (hi : i < 3) {l a b n : Nat} (hl : l < nL) (r1 : M 82 (2 * l) = nI a) (r3 : M 82 (2 * l + 1) = nI b) (ha : a < 3) (hb : b < 3) : f_X1_endOf_L2 fu (nI i) M (n + 1) (nI (2 * l + 1)) = (if b = i then (if tk a = false then f_X1_endOf_L2 fu (nI i) M n (nI (2 * (l + 1))) else some (nI (2 * l + 1))) else f_X1_endOf_L2 fu (nI i) M n (nI (2 * (l + 1)))) := by
  have hb3 := hG.2.1.2
  have h3 : ¬ 2 * nL ≤ 2 * l + 1 := by omega
  have x1 := (xor1 ⟨l, by omega⟩).2
  dsimp only at x1
  rw [show 2 * (l + 1) = 2 * l + 1 + 1 by omega]
  simp (disch := omega) only [f_X1_endOf_L2, hD.1.2.1, hG.2.1.1, lit, nI_add, pk_mul, pk_sub, nI_clamp, inb_nI, nI_leI, nI_ltI, nI_eq, add_m1, ↓reduceIte, grd_true, nm_d, jn_d, bd_some, bm_some, om_some, om_none, h3, r1, x1, r3, isTaken_eq hfu hT ha, bI_0]
theorem endOfL (hfu : 5000 ≤ fu) (hD : DR M m) (hG : DG m nS nL nC nO) (hT : TK M m tk p) (hi : i < 3) : ∀ d l n, l + d = nL → 2 * d < n → f_X1_endOf_L2 fu (nI i) M n (nI (2 * l)) = some (enI m i (fro (lkd m tk i) l d)) := by
  intro d
  induction d with
  | zero =>
    intro l n h1 h2
    obtain ⟨n, rfl⟩ := fu1 h2
    obtain rfl : l = nL := by omega
    have hb := hG.2.1.2
    simp (disch := omega) only [f_X1_endOf_L2, hD.1.2.1, hG.2.1.1, lit, nI_add, pk_mul, pk_sub, nI_clamp, inb_nI, nI_leI, nI_ltI, nI_eq, add_m1, ↓reduceIte, grd_true, nm_d, jn_d, bd_some, bm_some, om_some, om_none, Nat.le_refl, fro, enI]
  | succ d ih =>
    intro l n h1 h2
    obtain ⟨n, rfl⟩ := fu1 h2
    obtain ⟨n, rfl⟩ := fu1 (show 0 < n by omega)
    have hS3 := hG.1.2
    obtain ⟨a, b, c, dd, r1, r2, r3, r4, q1, q2, q3, q4, q5, q6, q7, q8, hA, hB, hlk⟩ := lkF (tk := tk) hG hD (show l < nL by omega) hi
    rw [endEven hfu hD hG hT hi (show l < nL by omega) r1 r2 (by omega) (by omega), endOdd hfu hD hG hT hi (show l < nL by omega) r1 r2 (by omega) (by omega), ih (l + 1) n (by omega) (by omega)]
    simp only [fro, hlk]
    by_cases ha : a = i
    · have hbi : ¬ b = i := by omega
      simp only [ha, hbi, ↓reduceIte, decide_true, decide_false, Bool.true_and, Bool.false_and, Bool.or_false]
      cases ht : tk b with
      | false => rw [if_pos rfl, if_neg (by decide)]
      | true => rw [if_neg (by decide), if_pos rfl]; simp only [enI, q1, ha, ↓reduceIte]
    · simp only [ha, ↓reduceIte, decide_false, Bool.false_and, Bool.false_or]
      by_cases hbi : b = i
      · simp only [hbi, ↓reduceIte, decide_true, Bool.true_and]
        cases ht : tk a with
        | false => rw [if_pos rfl, if_neg (by decide)]
        | true => rw [if_neg (by decide), if_pos rfl]; simp only [enI, q1, hA, ha, ↓reduceIte]
      · simp only [hbi, ↓reduceIte, decide_false, Bool.false_and]
        rw [if_neg (by decide)]
theorem endOf_eq (hfu : 5000 ≤ fu) (hD : DR M m) (hG : DG m nS nL nC nO) (hT : TK M m tk p) (hi : i < 3) : f_X1_endOf fu (nI i) M = some (enI m i (fro (lkd m tk i) 0 nL)) := endOfL hfu hD hG hT hi nL 0 fu (by omega) (by have := hG.2.1.2; omega)
theorem linkOfL (hG : DG m nS nL nC nO) (hT : TK M m tk p) (hi : i < 3) : ∀ k n, k ≤ nL → k < n → f_X11_linkOf_L9 fu (nI i) m n (oI (fro (lkd m tk i) k (nL - k))) (nI k + -nI 1) = some (oI (fro (lkd m tk i) 0 nL)) := by
  intro k
  induction k with
  | zero =>
    intro n h1 h2
    obtain ⟨n, rfl⟩ := fu1 h2
    have : nI 0 + -nI 1 < (0 : Int32) := by decide
    simp only [f_X11_linkOf_L9, this, ↓reduceIte, Nat.sub_zero]
  | succ k ih =>
    intro n h1 h2
    obtain ⟨n, rfl⟩ := fu1 h2
    have hS3 := hG.1.2
    have hb3 := hG.2.1.2
    obtain ⟨a, b, c, dd, q1, q2, q3, q4, q5, q6, q7, q8⟩ := hG.2.2.2.2.2.2.2.1 k (by omega)
    have hA : (nI a = nI i) = (a = i) := propext (nI_eq (by omega) (by omega))
    have hB : (nI b = nI i) = (b = i) := propext (nI_eq (by omega) (by omega))
    have hlk : lkd m tk i k = ((decide (a = i) && tk b) || (decide (b = i) && tk a)) := by
      simp only [lkd, q1, q2]
      rw [nI_clamp (by omega), nI_clamp (by omega)]
      simp only [hA, hB]
    have ih' := ih n (by omega) (by omega)
    have e9 : nI (k + 1) + -nI 1 = nI k := by rw [add_m1 (by omega)]; rfl
    have e8 : nL - k = nL - (k + 1) + 1 := by omega
    rw [e8] at ih'
    simp only [fro, hlk] at ih'
    rw [e9]
    have i1 : ¬ (nI 1 : Int32) = nI 0 := by decide
    have t42 := hT.2.1
    simp (disch := omega) only [f_X11_linkOf_L9, lit, nI_add, pk_mul, pk_sub, nI_clamp, inb_nI, nI_leI, nI_ltI, nI_eq, add_m1, ↓reduceIte, grd_true, nm_d, jn_d, bd_some, bm_some, om_some, om_none, Nat.not_lt_zero, q1, q2, hA, hB, t42, bI_0, i1]
    by_cases ha : a = i
    · have hbi : ¬ b = i := by omega
      simp only [ha, hbi, ↓reduceIte, decide_true, decide_false, Bool.true_and, Bool.false_and, Bool.or_false] at ih' ⊢
      cases ht : tk b with
      | false => rw [ht, if_neg (by decide)] at ih'; rw [if_pos rfl]; exact ih'
      | true => rw [ht, if_pos rfl] at ih'; rw [if_neg (by decide)]; exact ih'
    · simp only [ha, ↓reduceIte, decide_false, Bool.false_and, Bool.false_or] at ih' ⊢
      by_cases hbi : b = i
      · simp only [hbi, ↓reduceIte, decide_true, Bool.true_and] at ih' ⊢
        cases ht : tk a with
        | false => rw [ht, if_neg (by decide)] at ih'; rw [if_pos rfl]; exact ih'
        | true => rw [ht, if_pos rfl] at ih'; rw [if_neg (by decide)]; exact ih'
      · simp only [hbi, ↓reduceIte, decide_false, Bool.false_and] at ih' ⊢
        rw [if_neg (by decide)] at ih'
        exact ih'
theorem linkOf_eq (hfu : 5000 ≤ fu) (hG : DG m nS nL nC nO) (hT : TK M m tk p) (hi : i < 3) : f_X11_linkOf fu (nI i) m = some (oI (fro (lkd m tk i) 0 nL)) := by
  have hb3 := hG.2.1.2
  have e := linkOfL (fu := fu) hG hT hi nL fu (Nat.le_refl _) (by omega)
  rw [Nat.sub_self] at e
  have e2 : nI nL - 1 = nI nL + -nI 1 := Int32.sub_eq_add_neg _ _
  simp only [f_X11_linkOf, nm_d, hG.2.1.1, e2]
  exact e
end Next
