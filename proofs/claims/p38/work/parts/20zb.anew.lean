/-! ===== answers anew ===== -/
section AnewL
variable {fu t u i j s x c k cols nS nL nC nO : Nat} {M m N n M0 m0 : Mem} {RR : Nat → List Row} {A : Nat → List Row} {R R' : List Row} {r : Row} {v w : Int32} {p1 p2 p3 : Int32} {sc : Nat → Nat}
theorem an85 {k127 : Mem → Option (Int32 × Mem)} (hi : i < 3) (hs : s < 6) (h6 : M 146 (6 + i) = nI s) (hR : R.length ≤ 10) (h158 : M 158 i = nI R.length) : ∀ d x n (N : Mem), x + d = R.length → d < n → (∀ a, a ≠ 157 → N a = M a) → (∀ j, lg (N 157) j = if 10 * i ≤ j ∧ j < 10 * i + x then lg (M 142) (10 * s + (j - 10 * i)) else lg (M 157) j) →
    ∃ N', f_L_isAnew_L85 fu (nI i) k127 n (nI x) N = k127 N' ∧ (∀ a, a ≠ 157 → N' a = M a) ∧ (∀ j, lg (N' 157) j = if 10 * i ≤ j ∧ j < 10 * i + R.length then lg (M 142) (10 * s + (j - 10 * i)) else lg (M 157) j) := by
  have e6 : (6 : Int32) + nI i = nI (6 + i) := nI_add 6 i
  intro d
  induction d with
  | zero =>
    intro x n N h1 h2 h3 h4
    obtain ⟨n, rfl⟩ := fu1 h2
    obtain rfl : x = R.length := by omega
    refine ⟨N, ?_, h3, h4⟩
    simp (disch := omega) only [f_L_isAnew_L85, inb_nI, grd_true, nI_clamp, h3 158 (by omega), h158, nI_leI, Nat.le_refl, if_true]
  | succ d ih =>
    intro x n N h1 h2 h3 h4
    obtain ⟨n, rfl⟩ := fu1 h2
    have h5 : ¬ R.length ≤ x := by omega
    have e5 : (10 : Int32) * nI i + nI x = nI (10 * i + x) := by rw [show (10 : Int32) = nI 10 from rfl, pk_mul, nI_add]
    have e7 : (10 : Int32) * nI s + nI x = nI (10 * s + x) := by rw [show (10 : Int32) = nI 10 from rfl, pk_mul, nI_add]
    simp (disch := omega) only [f_L_isAnew_L85, inb_nI, grd_true, nI_clamp, h3 158 (by omega), h3 146 (by omega), h3 142 (by omega), h158, nI_leI, h5, if_false, e5, e6, h6, e7, nm_d, nI_1]
    refine ih (x + 1) n _ (by omega) (by omega) (fun a ha => by rw [upL_n ha, h3 a ha]) (fun j => ?_)
    by_cases hj : j = 10 * i + x
    · subst hj
      rw [upL_s, if_pos (by omega)]
      congr 1
      omega
    · rw [upL_m hj, h4]
      by_cases h7 : 10 * i ≤ j ∧ j < 10 * i + x
      · rw [if_pos h7, if_pos (by omega)]
      · rw [if_neg h7, if_neg (by omega)]
theorem an60 {k133 : Mem → Option (Int32 × Mem)} (hfu : 5000 ≤ fu) (hS3 : nS ≤ 3) (hS : M 146 0 = nI nS) (h6 : ∀ i, i < nS → sc i < 6 ∧ M 146 (6 + i) = nI (sc i)) (hR : ∀ s, s < 6 → RWl M s (RR s)) : ∀ d i n (N : Mem), i + d = nS → d < n → (∀ a, a ≠ 157 → a ≠ 158 → N a = M a) → (∀ j, j < i → RWa N 157 158 j (RR (sc j))) →
    ∃ N', f_L_isAnew_L60 fu k133 n (nI i) N = k133 N' ∧ (∀ a, a ≠ 157 → a ≠ 158 → N' a = M a) ∧ (∀ j, j < nS → RWa N' 157 158 j (RR (sc j))) := by
  intro d
  induction d with
  | zero =>
    intro i n N h1 h2 h3 h4
    obtain ⟨n, rfl⟩ := fu1 h2
    obtain rfl : i = nS := by omega
    refine ⟨N, ?_, h3, h4⟩
    simp (disch := omega) only [f_L_isAnew_L60, h3 146 (by omega) (by omega), hS, nI_leI, Nat.le_refl, if_true]
  | succ d ih =>
    intro i n N h1 h2 h3 h4
    obtain ⟨n, rfl⟩ := fu1 h2
    have h5 : ¬ nS ≤ i := by omega
    obtain ⟨s1, s2⟩ := h6 i (by omega)
    have e6 : (6 : Int32) + nI i = nI (6 + i) := nI_add 6 i
    have hr := hR (sc i) s1
    have h10 := hr.2.1
    let P := up N 158 i (nI (RR (sc i)).length)
    have oP : ∀ a, a ≠ 158 → P a = N a := fun a ha => up_n ha
    obtain ⟨P2, g1, g2, g3⟩ := an85 (fu := fu) (i := i) (s := sc i) (R := RR (sc i)) (M := P) (k127 := fun (M_73 : Mem) => nm (nI i + 1) (fun x7_74 => f_L_isAnew_L60 fu k133 n x7_74 M_73)) (by omega) s1 (by rw [oP 146 (by omega), h3 146 (by omega) (by omega)]; exact s2) h10 up_s (RR (sc i)).length 0 fu P (by omega) (by omega) (fun _ _ => rfl) (fun j => by rw [if_neg (by omega)])
    obtain ⟨N', q1, q2, q3⟩ := ih (i + 1) n P2 (by omega) (by omega) (fun a z1 z2 => by rw [g2 a z1, oP a z2, h3 a z1 z2]) (fun j hj => by
      by_cases hji : j = i
      · subst hji
        refine ⟨by rw [g2 158 (by omega)]; exact up_s, h10, fun y r hy => ?_⟩
        have := gl_lt hy
        rw [g3, if_pos (by omega), oP 142 (by omega), h3 142 (by omega) (by omega), show 10 * j + y - 10 * j = y by omega]
        exact hr.2.2 y r hy
      · exact (h4 j (by omega)).cg (by rw [g2 158 (by omega)]; exact up_m hji) (fun y hy => by rw [g3, if_neg (by omega), oP 157 (by omega)]))
    refine ⟨N', ?_, q2, q3⟩
    rw [← q1]
    simp (disch := omega) only [f_L_isAnew_L60, h3 146 (by omega) (by omega), hS, nI_leI, h5, if_false, e6, inb_nI, grd_true, nI_clamp, s2, h3 143 (by omega) (by omega), hr.1, nm_d, jn_d]
    refine Eq.trans g1 ?_
    rw [nm_d, nI_1]
/-- what each call finds anew -/
def ANF (fu k cols : Nat) (x : Nat → Int32) (m0 : Mem) : Prop := ∀ m, EQ1 m m0 → f_X11_isDrafted fu m = some 1 ∧ ∃ n, f_X11_makes fu 0 m = some n ∧ n 0 68 = nI k ∧ n 0 69 = nI cols ∧ (∀ y c, y < k → c < cols → x (3 * y + c) = n 52 (3 * y + c)) ∧ EQ1 n m0
theorem xanew {y : Nat → Int32} (h : ANF fu k cols y m0) (hE : EQ1 m m0) (hk : k ≤ 20) (hc3 : cols ≤ 3) (hx : x < k) (hc : c < cols) : ∃ n, f_X11_answerAnew fu (nI x) (nI c) m = some (y (3 * x + c), n) ∧ EQ1 n m0 ∧ n 0 0 = 0 := by
  have h0 : EQ1 (up m 0 0 0) m0 := EQ0.up0.q1.trans hE
  obtain ⟨hd, _⟩ := h m hE
  obtain ⟨_, n, e1, e2, e3, e4, e5⟩ := h _ h0
  have i1 : (f_X11_in (nI x) 0 (nI k - 1) = 0) = False := by rw [inm1 (by omega)]; exact eq_false (good (by omega) hx)
  have i2 : (f_X11_in (nI c) 0 (nI cols - 1) = 0) = False := by rw [inm1 (by omega)]; exact eq_false (good (by omega) hc)
  have e6 : (3 : Int32) * nI x + nI c = nI (3 * x + c) := by rw [show (3 : Int32) = nI 3 from rfl, pk_mul, nI_add]
  refine ⟨up n 0 0 0, ?_, EQ0.up0.q1.trans e5, up_s⟩
  simp (disch := omega) only [f_X11_answerAnew, hd, bd_some, if_neg (show ¬ (1 : Int32) = 0 by decide), nm_d, up_s, Int32.le_refl, if_true, e1, e2, e3, i1, i2, if_false, e6, inb_nI, grd_true, nI_clamp, up_n, e4 x c hx hc]
theorem xanewE {y : Nat → Int32} (h : ANF fu k cols y m0) (hE : EQ1 m m0) (hk : k ≤ 20) (hc3 : cols ≤ 3) (ho : (p1 < 0 ∨ nI k ≤ p1) ∨ (p2 < 0 ∨ nI cols ≤ p2)) : ∃ n, f_X11_answerAnew fu p1 p2 m = some (0, n) ∧ EQ1 n m0 ∧ n 0 0 = 2 := by
  have h0 : EQ1 (up m 0 0 0) m0 := EQ0.up0.q1.trans hE
  obtain ⟨hd, _⟩ := h m hE
  obtain ⟨_, n, e1, e2, e3, e4, e5⟩ := h _ h0
  have i1 := inm1 (x := p1) (k := k) (by omega)
  have i2 := inm1 (x := p2) (k := cols) (by omega)
  refine ⟨up n 0 0 2, ?_, EQ0.up0.q1.trans e5, up_s⟩
  simp only [f_X11_answerAnew, hd, bd_some, if_neg (show ¬ (1 : Int32) = 0 by decide), nm_d, up_s, Int32.le_refl, if_true, e1, e2, e3, i1, i2]
  by_cases z : p1 < 0 ∨ nI k ≤ p1
  · simp only [z, if_true, le20, if_false]
  · simp only [z, ho.resolve_left z, if_true, if_false, le20]
def TS1 (M m M0 m0 : Mem) (t u : Nat) : Prop := INV M m t u ∧ (∀ a, 142 ≤ a → M a = M0 a) ∧ EQ1 m m0
theorem TS1.cl {km : Nat → Nat} {f : Option XR} {g : Option (Int32 × Mem)} {cs : List Nat} {k0 : Nat} (h : TS1 M m M0 m0 t u) (hO : OUT km t u f g) (hg : g = some (w, n)) (hE : EQ1 n m0) (hk0 : n 0 0 = nI (km k0)) (hb : EQ1 m m0) (hL0 : LR M0 m0 t u) (hinj : ∀ k, k ≤ 3 → km k ≤ 3 → (km k = 0 → k = 0) → km k = km k0 → k = k0) (h3 : km k0 ≤ 3) (hcs : k0 = 0 ∨ k0 ∈ cs) (ht : t < 2 ^ 29) : ∃ M', wr cs f M = some (if k0 = 0 then w else ek k0, M') ∧ TS1 M' n M0 m0 t u := by
  obtain ⟨M', a1, a2, a3⟩ := rCall (M1 := M) (k0 := k0) (cs := cs) (hL0.cg1 (fun a z _ => h.2.1 a z) hE h.1.2.e3c) hO hg hk0 hinj h3 hcs ht (by omega) (by have := hL0.tt.2.2.2; omega)
  exact ⟨M', a1, a2, fun a ha => by rw [a3 a ha]; exact h.2.1 a ha, hE⟩
theorem an223 {k259 : Mem → Option (Int32 × Mem)} (hfu : 5000 ≤ fu) (ht : t < 2 ^ 29) (h : ANF fu k cols (M0 159) m0) (hL0 : LR M0 m0 t u) (hk : k ≤ 20) (hc3 : cols ≤ 3) (hx : x < k) : ∀ d c n (M m : Mem), c + d = cols → d < n → TS1 M m M0 m0 t u → ∃ M' m', f_L_isAnew_L223 fu (nI cols) (nI x) k259 n (nI c) M = k259 M' ∧ TS1 M' m' M0 m0 t u := by
  intro d
  induction d with
  | zero =>
    intro c n M m h1 h2 h3
    obtain ⟨n, rfl⟩ := fu1 h2
    obtain rfl : c = cols := by omega
    exact ⟨M, m, by simp (disch := omega) only [f_L_isAnew_L223, nI_leI, Nat.le_refl, if_true], h3⟩
  | succ d ih =>
    intro c n M m h1 h2 h3
    obtain ⟨n, rfl⟩ := fu1 h2
    have h5 : ¬ cols ≤ c := by omega
    obtain ⟨m1, q1, q2, q3⟩ := xanew (fu := fu) h h3.2.2 hk hc3 hx (show c < cols by omega)
    obtain ⟨M1, a1, a2⟩ := h3.cl (k0 := 0) (cs := [3, 1]) (answerAnew_call (p1 := nI x) (p2 := nI c) hfu h3.1.2) q1 q2 (by rw [q3]; rfl) h3.2.2 hL0 (by decide) (by decide) (by decide) ht
    have a1' : f_L_answerAnew fu (nI x) (nI c) M = some (M0 159 (3 * x + c), M1) := a1
    have e1 : (3 : Int32) * nI x + nI c = nI (3 * x + c) := by rw [show (3 : Int32) = nI 3 from rfl, pk_mul, nI_add]
    have e2 : M0 159 (3 * x + c) = M1 159 (3 * x + c) := by rw [a2.2.1 159 (by omega)]
    obtain ⟨M2, m2, g1, g2⟩ := ih (c + 1) n M1 m1 (by omega) (by omega) a2
    refine ⟨M2, m2, ?_, g2⟩
    rw [← g1]
    simp (disch := omega) only [f_L_isAnew_L223, nI_leI, h5, if_false, a1', bm_some, e1, inb_nI, grd_true, nI_clamp, e2, if_true, nm_d, nI_1]
theorem an213 (hfu : 5000 ≤ fu) (ht : t < 2 ^ 29) (h : ANF fu k cols (M0 159) m0) (hL0 : LR M0 m0 t u) (hk : k ≤ 20) (hc3 : cols ≤ 3) : ∀ d x n (M m : Mem), x + d = k → d < n → TS1 M m M0 m0 t u → ∃ M' m', f_L_isAnew_L213 fu (nI k) (nI cols) n (nI x) M = some (1, M') ∧ TS1 M' m' M0 m0 t u := by
  intro d
  induction d with
  | zero =>
    intro x n M m h1 h2 h3
    obtain ⟨n, rfl⟩ := fu1 h2
    obtain rfl : x = k := by omega
    refine ⟨M, m, ?_, h3⟩
    simp (disch := omega) only [f_L_isAnew_L213, nI_leI, Nat.le_refl, if_true]
    rw [grd_t h3.1.2.e3c]
  | succ d ih =>
    intro x n M m h1 h2 h3
    obtain ⟨n, rfl⟩ := fu1 h2
    have h5 : ¬ k ≤ x := by omega
    obtain ⟨M1, m1, a1, a2⟩ := an223 (fu := fu) (k259 := fun (M_52 : Mem) => nm (nI x + 1) (fun x9_53 => f_L_isAnew_L213 fu (nI k) (nI cols) n x9_53 M_52)) hfu ht h hL0 hk hc3 (show x < k by omega) cols 0 4 M m (by omega) (by omega) h3
    obtain ⟨M2, m2, g1, g2⟩ := ih (x + 1) n M1 m1 (by omega) (by omega) a2
    refine ⟨M2, m2, ?_, g2⟩
    rw [← g1]
    simp (disch := omega) only [f_L_isAnew_L213, nI_leI, h5, if_false, jn_d]
    refine Eq.trans a1 ?_
    rw [nm_d, nI_1]
theorem mk00 (hfu : 5000 ≤ fu) (hD : DL M m nS nL nC nO) (hG : DG m nS nL nC nO) (hS0 : 0 < nS) (hO : 0 < nO) {A : Nat → List Row} (hX : ∀ i, i < nS → RX m false i (A i)) (hR : ∀ i, i < nS → RWa M 157 158 i (A i) ∧ okW (A i)) {b : Mem} (h : f_X11_makes fu 0 m = some b) : b 0 0 = m 0 0 := by
  obtain ⟨N, n, k, e1, e2, _, _, _, _, _, _, e9⟩ := match_L (fu := fu) (a1 := 157) (a2 := 158) (a3 := 159) (hh := false) hfu hD hG hS0 hO (by omega) hX hR
  have : f_X11_makes fu 0 m = some n := e2
  rw [this] at h
  cases h
  exact e9 0 (by omega) (by omega) (by omega)
theorem anew_ok (hfu : 5000 ≤ fu) (hI : INV M0 m0 t u) (ht : t < 2 ^ 29) : ∃ M' m', f_L_isAnew fu M0 = some (1, M') ∧ INV M' m' t u := by
  obtain ⟨RR, hR⟩ := hI.rows
  obtain ⟨_, nS, nL, nC, nO, _, ⟨hD, hDG⟩, _⟩ := id hI.1
  have hS3 := hDG.1.2
  have hO3 := hDG.2.2.2.1.2
  have hS0 : (M0 146 0 = 0) = (nS = 0) := by rw [hD.1.1, show (0 : Int32) = nI 0 from rfl, nI_eq (by omega) (by omega)]
  have hO0 : (M0 146 3 = 0) = (nO = 0) := by rw [hD.1.2.2.2.1, show (0 : Int32) = nI 0 from rfl, nI_eq (by omega) (by omega)]
  have hor : ∀ (x y : Int32) (a b : Option (Int32 × Mem)), (if x = 0 then a else if y = 0 then a else b) = if x = 0 ∨ y = 0 then a else b := fun x y a b => by
    by_cases h1 : x = 0 <;> by_cases h2 : y = 0 <;> simp [h1, h2]
  by_cases hd : nS = 0 ∨ nO = 0
  · have hc : M0 146 0 = 0 ∨ M0 146 3 = 0 := by rw [hS0, hO0]; exact hd
    have hdd : ∀ q : Mem, DG q nS nL nC nO → f_X11_isDrafted fu q = some 0 := fun q hq => by
      have hdr := fun z => (show ¬ (0 < nS ∧ 0 < nO) by omega) (hq.dr.mpr z)
      simp only [f_X11_isDrafted]
      by_cases z : q 0 22 ≤ 0
      · simp [z]
      · by_cases z' : q 0 34 ≤ 0
        · simp [z']
        · exact absurd ⟨z, z'⟩ hdr
    have hDG' : DG (up m0 0 0 1) nS nL nC nO := hDG.cg ⟨fun a _ _ => up_n (by omega), fun j _ _ => up_m (by omega)⟩
    have g2 : f_X11_answersAnew fu m0 = some (0, up m0 0 0 1) := by
      simp only [f_X11_answersAnew, hdd _ hDG, bd_some, if_true, nm_d, up_s]
      rfl
    obtain ⟨M5, q1, q2, q3⟩ := eCall (k0 := 3) (cs := [3]) hI (answersAnew_call hfu hI.2) g2 .up0 (by rw [up_s]; rfl) (by decide) (by decide) (by decide) ht
    have q1' : f_L_answersAnew fu M0 = some (-7300, M5) := q1
    have g3 : f_X11_answerAnew fu (-1) 0 (up m0 0 0 1) = some (0, up (up m0 0 0 1) 0 0 1) := by
      simp only [f_X11_answerAnew, hdd _ hDG', bd_some, if_true, nm_d, up_s]
      rfl
    obtain ⟨M6, r1, r2, r3⟩ := eCall (k0 := 3) (cs := [3, 1]) q2 (answerAnew_call (p1 := -1) (p2 := 0) hfu q2.2) g3 .up0 (by rw [up_s]; rfl) (by decide) (by decide) (by decide) ht
    have r1' : f_L_answerAnew fu (-1) 0 M5 = some (-7300, M6) := r1
    refine ⟨M6, _, ?_, r2⟩
    unfold f_L_isAnew
    simp only [jn_d, hor]
    rw [if_pos hc]
    simp only [q1', r1', bm_some, if_true]
  · have hc : ¬ (M0 146 0 = 0 ∨ M0 146 3 = 0) := by rw [hS0, hO0]; exact hd
    have hSp : 0 < nS := by omega
    have hOp : 0 < nO := by omega
    let M19 := row (row (row M0 157 (fun _ => 0)) 158 (fun _ => 0)) 159 (fun _ => 0)
    have o19 : ∀ a, a ≠ 157 → a ≠ 158 → a ≠ 159 → M19 a = M0 a := fun a z1 z2 z3 => by show row (row (row M0 _ _) _ _) _ _ a = _; rw [row_n z3, row_n z2, row_n z1]
    let sc : Nat → Nat := fun i => (m0 19 i).toNatClampNeg
    have hsc : ∀ i, i < nS → sc i < 6 ∧ m0 19 i = nI (sc i) := fun i hi => by
      obtain ⟨s, s1, s2⟩ := hDG.src hi
      have : sc i = s := by show (m0 19 i).toNatClampNeg = s; rw [s2, nI_clamp (by omega)]
      rw [this]; exact ⟨s1, s2⟩
    obtain ⟨M22, a1, a2, a3⟩ := an60 (fu := fu) (M := M19) (sc := sc) (RR := RR) (k133 := fun (M_22 : Mem) => bm (f_L_match fu 157 158 159 M_22) (fun r_24 M_25 => nm ((if (M_25 146 5) = 1 then 3 else (M_25 146 3)) : Int32) (fun v_27 => bm (f_L_answersAnew fu M_25) (fun r_29 M_30 => (if r_29 = r_24 then bm (f_L_answerAnew fu r_24 0 M_30) (fun r_34 M_35 => (if r_34 = (-7100) then bm (f_L_answerAnew fu (-1) 0 M_35) (fun r_39 M_40 => (if r_39 = (-7100) then bm (f_L_answerAnew fu 0 v_27 M_40) (fun r_44 M_45 => (if r_44 = (-7100) then f_L_isAnew_L213 fu r_24 v_27 22 0 M_45 else grd (e3 M_45) (some ((0 : Int32), M_45)))) else grd (e3 M_40) (some ((0 : Int32), M_40)))) else grd (e3 M_35) (some ((0 : Int32), M_35)))) else grd (e3 M_30) (some ((0 : Int32), M_30))))))) hfu hS3 (by rw [o19 146 (by omega) (by omega) (by omega)]; exact hD.1.1) (fun i hi => ⟨(hsc i hi).1, by rw [o19 146 (by omega) (by omega) (by omega), hD.2.1 i hi]; exact (hsc i hi).2⟩) (fun s hs => (hR s hs).1.cg2 (o19 143 (by omega) (by omega) (by omega)) (o19 142 (by omega) (by omega) (by omega))) nS 0 fu M19 (by omega) (by omega) (fun _ _ _ => rfl) (fun j hj => by omega)
    have o22 : ∀ a, a ≠ 157 → a ≠ 158 → a ≠ 159 → M22 a = M0 a := fun a z1 z2 z3 => by rw [a2 a z1 z2, o19 a z1 z2 z3]
    -- the match, with any memory that is so
    have hDq : ∀ q : Mem, EQ1 q m0 → DL M22 q nS nL nC nO ∧ DG q nS nL nC nO ∧ (∀ i, i < nS → RX q false i (RR (sc i))) := fun q hq => by
      have hDS : DS q m0 := ⟨fun a z1 z2 => hq.1 a (by omega) (by omega), fun j z1 z2 => hq.2 j (by omega) (by omega) (by omega) (by omega)⟩
      refine ⟨hD.cg (o22 146 (by omega) (by omega) (by omega)) (fun a z1 z2 => hDS.1 a z1 z2) (hDS.2 37 (by omega) (by omega)) (hDS.2 38 (by omega) (by omega)), hDG.cg hDS, fun i hi => ⟨fun h => absurd h (by decide), fun _ => ⟨sc i, (hsc i hi).1, by rw [hDS.1 19 (by omega) (by omega)]; exact (hsc i hi).2, (hR (sc i) (hsc i hi).1).2.1.cg (by rw [hq.1 1 (by omega) (by omega)]) (hq.1 2 (by omega) (by omega)) (hq.1 3 (by omega) (by omega))⟩⟩⟩
    have hRw : ∀ i, i < nS → RWa M22 157 158 i (RR (sc i)) ∧ okW (RR (sc i)) := fun i hi => ⟨a3 i hi, (hR (sc i) (hsc i hi).1).2.2.1⟩
    obtain ⟨d1, d2, d3⟩ := hDq m0 .rfl
    obtain ⟨P, n0, k, e1, e2, hk20, e4, e5, e6, e7, e8, e9⟩ := match_L (fu := fu) (a1 := 157) (a2 := 158) (a3 := 159) (hh := false) (A := fun i => RR (sc i)) hfu d1 d2 hSp hOp (by omega) d3 hRw
    let cols := if m0 0 38 = 0 then nO else 3
    have hcols : cols ≤ 3 := by show (if m0 0 38 = 0 then nO else 3) ≤ 3; split <;> omega
    have hANF : ANF fu k cols (P 159) m0 := fun q hq => by
      obtain ⟨f1, f2, f3⟩ := hDq q hq
      obtain ⟨P', n', k', g1, g2, g3, g4, g5, g6, g7, g8, g9⟩ := match_L (fu := fu) (a1 := 157) (a2 := 158) (a3 := 159) (hh := false) (A := fun i => RR (sc i)) hfu f1 f2 hSp hOp (by omega) f3 hRw
      rw [e1] at g1
      have hpp := Option.some.inj g1
      have hk' : nI k = nI k' := (Prod.mk.inj hpp).1
      have hP' : P = P' := (Prod.mk.inj hpp).2
      have hkk : k = k' := (nI_eq (by omega) (by omega)).mp hk'
      subst hkk hP'
      have h38 : q 0 38 = m0 0 38 := hq.2 38 (by omega) (by omega) (by omega) (by omega)
      rw [h38] at g5 g6
      have hdr := f2.dr.mp ⟨hSp, hOp⟩
      exact ⟨by simp only [f_X11_isDrafted, hdr.1, hdr.2, if_false], n', g2, g4, g5, g6, EQ1.trans ⟨fun a z1 z2 => g8 a z1 z2, fun j z1 z2 z3 z4 => g9 j z2 z3 z4⟩ hq⟩
    have o25 : ∀ a, a ≠ 157 → a ≠ 158 → a ≠ 159 → P a = M0 a := fun a z1 z2 z3 => by rw [e7 a z3, o22 a z1 z2 z3]
    have hIP : INV P m0 t u := hI.cgM (fun a ha => o25 a (by omega) (by omega) (by omega))
    have hz : ∀ q, EQ1 q m0 → ∀ b : Mem, f_X11_makes fu 0 q = some b → b 0 0 = q 0 0 := fun q hq b hb => by
      obtain ⟨f1, f2, f3⟩ := hDq q hq
      exact mk00 hfu f1 f2 hSp hOp f3 hRw hb
    have T0 : TS1 P m0 P m0 t u := ⟨hIP, fun _ _ => rfl, .rfl⟩
    have hv : (if (P 146 5) = 1 then (3 : Int32) else (P 146 3)) = nI cols := by
      rw [o25 146 (by omega) (by omega) (by omega), hD.1.2.2.2.2.2.1, hD.1.2.2.2.1]
      show _ = nI (if m0 0 38 = 0 then nO else 3)
      rcases hDG.2.2.2.2.2.1 with h | h
      · rw [h, if_neg (by decide), if_pos rfl]
      · rw [h, if_pos rfl, if_neg (by decide)]; rfl
    -- the calls
    obtain ⟨m1, w1, w2, w3⟩ : ∃ n, f_X11_answersAnew fu m0 = some (nI k, n) ∧ EQ1 n m0 ∧ n 0 0 = 0 := by
      have h0 : EQ1 (up m0 0 0 0) m0 := EQ0.up0.q1
      obtain ⟨hd', _⟩ := hANF m0 .rfl
      obtain ⟨_, n, y1, y2, y3, y4, y5⟩ := hANF _ h0
      refine ⟨n, ?_, y5, by rw [hz _ h0 _ y1, up_s]⟩
      simp only [f_X11_answersAnew, hd', bd_some, if_neg (show ¬ (1 : Int32) = 0 by decide), nm_d, up_s, Int32.le_refl, if_true, y1, y2]
    obtain ⟨M30, b1, b2⟩ := T0.cl (k0 := 0) (cs := [3]) (answersAnew_call hfu hIP.2) w1 w2 (by rw [w3]; rfl) .rfl hIP.1 (by decide) (by decide) (by decide) ht
    have b1' : f_L_answersAnew fu P = some (nI k, M30) := b1
    obtain ⟨m2, x1, x2, x3⟩ := xanewE (fu := fu) (p1 := nI k) (p2 := 0) hANF b2.2.2 hk20 hcols (Or.inl (Or.inr (Int32.le_refl _)))
    obtain ⟨M35, c1, c2⟩ := b2.cl (k0 := 1) (cs := [3, 1]) (answerAnew_call (p1 := nI k) (p2 := 0) hfu b2.1.2) x1 x2 (by rw [x3]; rfl) b2.2.2 hIP.1 (by decide) (by decide) (by decide) ht
    have c1' : f_L_answerAnew fu (nI k) 0 M30 = some (-7100, M35) := c1
    obtain ⟨m3, x4, x5, x6⟩ := xanewE (fu := fu) (p1 := -1) (p2 := 0) hANF c2.2.2 hk20 hcols (Or.inl (Or.inl (by decide)))
    obtain ⟨M40, f1, f2⟩ := c2.cl (k0 := 1) (cs := [3, 1]) (answerAnew_call (p1 := -1) (p2 := 0) hfu c2.1.2) x4 x5 (by rw [x6]; rfl) c2.2.2 hIP.1 (by decide) (by decide) (by decide) ht
    have f1' : f_L_answerAnew fu (-1) 0 M35 = some (-7100, M40) := f1
    obtain ⟨m4, x7, x8, x9⟩ := xanewE (fu := fu) (p1 := 0) (p2 := nI cols) hANF f2.2.2 hk20 hcols (Or.inr (Or.inr (Int32.le_refl _)))
    obtain ⟨M45, g1, g2⟩ := f2.cl (k0 := 1) (cs := [3, 1]) (answerAnew_call (p1 := 0) (p2 := nI cols) hfu f2.1.2) x7 x8 (by rw [x9]; rfl) f2.2.2 hIP.1 (by decide) (by decide) (by decide) ht
    have g1' : f_L_answerAnew fu 0 (nI cols) M40 = some (-7100, M45) := g1
    obtain ⟨M50, m5, h1, h2⟩ := an213 (fu := fu) hfu ht hANF hIP.1 hk20 hcols k 0 22 M45 m4 (by omega) (by omega) g2
    refine ⟨M50, m5, ?_, h2.1⟩
    have e3' : e3 (row M0 157 (fun _ => 0)) = true := by rw [e3_cg (row_n (by omega))]; exact hI.2.e3c
    have e3'' : e3 (row (row M0 157 (fun _ => 0)) 158 (fun _ => 0)) = true := by rw [e3_cg (row_n (by omega))]; exact e3'
    unfold f_L_isAnew
    simp only [jn_d, hor]
    rw [if_neg hc, grd_t hI.2.e3c, nm_d, grd_t e3', nm_d, grd_t e3'', nm_d]
    refine Eq.trans a1 ?_
    rw [e1, bm_some, nm_d, hv, b1', bm_some, if_pos rfl, c1', bm_some, if_pos rfl, f1', bm_some, if_pos rfl, g1', bm_some, if_pos rfl]
    exact h1
end AnewL
