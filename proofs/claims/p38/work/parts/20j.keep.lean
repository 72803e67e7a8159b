/-! ===== a scan is kept: the law ===== -/
def scK (fu : Nat) (p11 x12_2 : Int32) (M_13 : Mem) : Option (Int32 × Mem) := nm (8 * (M_13 152 3)) (fun x13_14 => grd (inb x13_14 48) (nm (up M_13 147 x13_14.toNatClampNeg x12_2) (fun M_16 => grd (inb (x13_14 + 1) 48) (nm (up M_16 147 (x13_14 + 1).toNatClampNeg (M_16 152 1)) (fun M_18 => grd (inb (x13_14 + 2) 48) (nm (up M_18 147 (x13_14 + 2).toNatClampNeg (M_18 152 0)) (fun M_20 => grd (inb (x13_14 + 3) 48) (nm (up M_20 147 (x13_14 + 3).toNatClampNeg (M_20 150 p11.toNatClampNeg)) (fun M_22 => jn (fun (x14_24 : Int32) (M_25 : Mem) => jn (fun (M_27 : Mem) => jn (fun (M_29 : Mem) => nm (up M_29 152 3 ((M_29 152 3) + 1)) (fun M_30 => (if x14_24 = 0 then grd (inb x12_2 14) (nm (up M_30 153 x12_2.toNatClampNeg (M_30 150 p11.toNatClampNeg)) (fun M_33 => some ((0 : Int32), M_33))) else some ((0 : Int32), M_30)))) (fun k358_28 => f_L_scan_L318 fu p11 k358_28 fu 0 M_27)) (fun k315_26 => f_L_scan_L292 fu x13_14 k315_26 fu x14_24 M_25)) (fun k288_23 => f_L_scan_L199 fu p11 x13_14 k288_23 fu 0 0 M_22))))))))))
section KeepL
variable {fu t u s i j e nS nL nC nO : Nat} {M m N n : Mem} {R A : List Row} {RR : Nat → List Row} {co : Option Nat} {L : List Ent} {sr kt : Nat → Nat}
theorem scSplit {p : Int32} : f_L_scan fu p M = grd (inb (6 + p) 43) (grd (inb p 3) (bm (f_L_request fu (M 146 (6 + p).toNatClampNeg / 2) (up M 150 p.toNatClampNeg 0)) (fun r_6 M_7 => if r_6 = 0 then some (1, M_7) else bd (f_L_come fu p (-1) 147 48 0 0 M_7) (fun M_10 => if M_10 152 14 = 1 then some (1, M_10) else if M_10 152 3 = 6 then f_L_scan_L80 fu (fun M_65 => f_L_scan_L109 fu (fun M_67 => scK fu p (M 146 (6 + p).toNatClampNeg) (up M_67 152 3 (M_67 152 3 - 1))) fu 0 M_65) fu 0 M_10 else scK fu p (M 146 (6 + p).toNatClampNeg) M_10)))) := Eq.refl _
theorem sc80 {k106 : Mem → Option (Int32 × Mem)} : ∀ d x n (N : Mem), x + d = 40 → d < n → (∀ a, a ≠ 147 → N a = M a) → (∀ j, N 147 j = if j < x then M 147 (j + 8) else M 147 j) → ∃ N', f_L_scan_L80 fu k106 n (nI x) N = k106 N' ∧ (∀ a, a ≠ 147 → N' a = M a) ∧ ∀ j, N' 147 j = if j < 40 then M 147 (j + 8) else M 147 j := by
  intro d
  induction d with
  | zero =>
    intro x n N h1 h2 h3 h4
    obtain ⟨n, rfl⟩ := fu1 h2
    obtain rfl : x = 40 := by omega
    refine ⟨N, ?_, h3, h4⟩
    simp (disch := omega) only [f_L_scan_L80, lit, nI_add, pk_mul, pk_sub, nI_clamp, inb_nI, nI_leI, nI_ltI, nI_eq, add_m1, ↓reduceIte, grd_true, nm_d, jn_d, bd_some, bm_some, om_some, om_none, Nat.le_refl]
  | succ d ih =>
    intro x n N h1 h2 h3 h4
    obtain ⟨n, rfl⟩ := fu1 h2
    have h5 : ¬ 40 ≤ x := by omega
    have e3 : N 147 (x + 8) = M 147 (x + 8) := by rw [h4, if_neg (by omega)]
    simp (disch := omega) only [f_L_scan_L80, lit, nI_add, pk_mul, pk_sub, nI_clamp, inb_nI, nI_leI, nI_ltI, nI_eq, add_m1, ↓reduceIte, grd_true, nm_d, jn_d, bd_some, bm_some, om_some, om_none, h5, e3]
    refine ih (x + 1) n _ (by omega) (by omega) (fun a ha => by rw [up_n ha, h3 a ha]) (fun j => ?_)
    by_cases hj : j = x
    · subst hj
      rw [up_s, if_pos (by omega)]
    · rw [up_m hj, h4]
      by_cases h7 : j < x
      · rw [if_pos h7, if_pos (by omega)]
      · rw [if_neg h7, if_neg (by omega)]
theorem sc109 {k106 : Mem → Option (Int32 × Mem)} : ∀ d x n (N : Mem), x + d = 50 → d < n → (∀ a, a ≠ 148 → N a = M a) → (∀ j, lg (N 148) j = if j < x then lg (M 148) (j + 10) else lg (M 148) j) → ∃ N', f_L_scan_L109 fu k106 n (nI x) N = k106 N' ∧ (∀ a, a ≠ 148 → N' a = M a) ∧ ∀ j, lg (N' 148) j = if j < 50 then lg (M 148) (j + 10) else lg (M 148) j := by
  intro d
  induction d with
  | zero =>
    intro x n N h1 h2 h3 h4
    obtain ⟨n, rfl⟩ := fu1 h2
    obtain rfl : x = 50 := by omega
    refine ⟨N, ?_, h3, h4⟩
    simp (disch := omega) only [f_L_scan_L109, lit, nI_add, pk_mul, pk_sub, nI_clamp, inb_nI, nI_leI, nI_ltI, nI_eq, add_m1, ↓reduceIte, grd_true, nm_d, jn_d, bd_some, bm_some, om_some, om_none, Nat.le_refl]
  | succ d ih =>
    intro x n N h1 h2 h3 h4
    obtain ⟨n, rfl⟩ := fu1 h2
    have h5 : ¬ 50 ≤ x := by omega
    have e3 : lg (N 148) (x + 10) = lg (M 148) (x + 10) := by rw [h4, if_neg (by omega)]
    simp (disch := omega) only [f_L_scan_L109, lit, nI_add, pk_mul, pk_sub, nI_clamp, inb_nI, nI_leI, nI_ltI, nI_eq, add_m1, ↓reduceIte, grd_true, nm_d, jn_d, bd_some, bm_some, om_some, om_none, h5, e3]
    refine ih (x + 1) n _ (by omega) (by omega) (fun a ha => by rw [upL_n ha, h3 a ha]) (fun j => ?_)
    by_cases hj : j = x
    · subst hj
      rw [upL_s, if_pos (by omega)]
    · rw [upL_m hj, h4]
      by_cases h7 : j < x
      · rw [if_pos h7, if_pos (by omega)]
      · rw [if_neg h7, if_neg (by omega)]
/-- the first entry goes -/
theorem rot_L (hfu : 5000 ≤ fu) (hL : LCk M u sr kt L) (h6 : L.length = 6) {K : Mem → Option (Int32 × Mem)} : ∃ N, f_L_scan_L80 fu (fun M_65 => f_L_scan_L109 fu (fun M_67 => K (up M_67 152 3 (M_67 152 3 - 1))) fu 0 M_65) fu 0 M = K N ∧ LCk N u sr kt (L.drop 1) ∧ (∀ a, a ≠ 147 → a ≠ 148 → a ≠ 152 → N a = M a) ∧ ∀ j, j ≠ 3 → N 152 j = M 152 j := by
  obtain ⟨N1, e1, f1, g1⟩ := sc80 (fu := fu) (M := M) (k106 := fun M_65 => f_L_scan_L109 fu (fun M_67 => K (up M_67 152 3 (M_67 152 3 - 1))) fu 0 M_65) 40 0 fu M (by omega) (by omega) (fun _ _ => rfl) (fun j => by rw [if_neg (by omega)])
  obtain ⟨N2, e2, f2, g2⟩ := sc109 (fu := fu) (M := N1) (k106 := fun M_67 => K (up M_67 152 3 (M_67 152 3 - 1))) 50 0 fu N1 (by omega) (by omega) (fun _ _ => rfl) (fun j => by rw [if_neg (by omega)])
  have c3 : N2 152 3 = nI 6 := by rw [f2 152 (by omega), f1 152 (by omega), hL.1, h6]
  have hdl : (L.drop 1).length = 5 := by simp; omega
  refine ⟨up N2 152 3 (N2 152 3 - 1), e1.trans e2, ⟨?_, by omega, fun k E hk => ?_⟩, fun a z1 z2 z3 => by rw [up_n z3, f2 a z2, f1 a z1], fun j hj => by rw [up_m hj, f2 152 (by omega), f1 152 (by omega)]⟩
  · rw [up_s, c3, hdl]
    decide
  · have hk5 := gl_lt hk
    rw [List.getElem?_drop] at hk
    refine (hL.2.2 (1 + k) E hk).mv (fun j hj => ?_) (fun j hj => ?_)
    · rw [up_n (by omega), f2 147 (by omega), g1, if_pos (by omega)]
      congr 1
      omega
    · rw [up_n (by omega), g2, if_pos (by omega), f1 148 (by omega)]
      congr 1
      omega
theorem cnd_ct {w : Nat} : (cnd m i w).length = ct (snt m i) w := by
  induction w with
  | zero => rfl
  | succ w ih =>
    simp only [cnd, ct]
    cases snt m i w <;> simp [ih]
theorem sc199 {b : Nat} {k288 : Int32 → Mem → Option (Int32 × Mem)} (hfu : 5000 ≤ fu) (hi : i < nS) (hG : DG m nS nL nC nO) (hb : b + 8 ≤ 48) : ∀ d w n (N : Mem), w + d = nC → d < n → DL N m nS nL nC nO → (∀ a, a ≠ 147 → N a = M a) → (∀ j, (j < b + 4 ∨ b + 8 ≤ j) → N 147 j = M 147 j) → (∀ p, p < (cnd m i w).length → N 147 (b + 4 + p) = enc (cnd m i w) p) →
    ∃ N', f_L_scan_L199 fu (nI i) (nI b) k288 n (nI (cnd m i w).length) (nI w) N = k288 (nI (cnd m i nC).length) N' ∧ (∀ a, a ≠ 147 → N' a = M a) ∧ (∀ j, (j < b + 4 ∨ b + 8 ≤ j) → N' 147 j = M 147 j) ∧ (∀ p, p < (cnd m i nC).length → N' 147 (b + 4 + p) = enc (cnd m i nC) p) := by
  have hC := hG.2.2.1.2
  intro d
  induction d with
  | zero =>
    intro w n N h1 h2 hD h3 h4 h5
    obtain ⟨n, rfl⟩ := fu1 h2
    obtain rfl : w = nC := by omega
    refine ⟨N, ?_, h3, h4, h5⟩
    simp (disch := omega) only [f_L_scan_L199, hD.1.2.2.1, nI_leI, Nat.le_refl, if_true]
  | succ d ih =>
    intro w n N h1 h2 hD h3 h4 h5
    obtain ⟨n, rfl⟩ := fu1 h2
    have h6 : ¬ nC ≤ w := by omega
    have hcl := cnd_len (m := m) (i := i) (w := w)
    have hse := lsent_eq hfu hD hG hi (show w < nC by omega)
    obtain ⟨a1, a2, a3, a4, ⟨k, k1, k2⟩, x1, x2⟩ := hD.2.2.2.1 w (by omega)
    obtain ⟨a, c, c1, c2, c3, c4, _⟩ := hG.2.2.2.2.2.2.2.2.1 w (by omega)
    have e2 : (22 : Int32) + 4 * nI w = nI (22 + 4 * w) := by rw [show (4 : Int32) = nI 4 from rfl, show (22 : Int32) = nI 22 from rfl, pk_mul, nI_add]
    have e3 : (23 : Int32) + 4 * nI w = nI (23 + 4 * w) := by rw [show (4 : Int32) = nI 4 from rfl, show (23 : Int32) = nI 23 from rfl, pk_mul, nI_add]
    have e4 : (24 : Int32) + 4 * nI w = nI (24 + 4 * w) := by rw [show (4 : Int32) = nI 4 from rfl, show (24 : Int32) = nI 24 from rfl, pk_mul, nI_add]
    have e5 : nI b + 4 + nI (cnd m i w).length = nI (b + 4 + (cnd m i w).length) := by rw [show (4 : Int32) = nI 4 from rfl, nI_add, nI_add]
    simp (disch := omega) only [f_L_scan_L199, hD.1.2.2.1, nI_leI, h6, if_false, hse, bd_some, bI_nz, e2, e3, e4, e5, inb_nI, grd_true, nI_clamp, nm_d, nI_1, a2, a3, a4]
    cases hs : snt m i w with
    | false =>
      rw [if_pos rfl]
      have e1 : cnd m i (w + 1) = cnd m i w := by simp [cnd, hs]
      rw [← e1]
      exact ih (w + 1) n N (by omega) (by omega) hD h3 h4 (by rw [e1]; exact h5)
    | true =>
      rw [if_neg (by decide)]
      have e1 : cnd m i (w + 1) = cnd m i w ++ [((m 25 w).toNatClampNeg, m 26 w, m 27 w)] := by simp [cnd, hs]
      have e1l : (cnd m i (w + 1)).length = (cnd m i w).length + 1 := by rw [e1]; simp
      rw [← e1l]
      refine ih (w + 1) n _ (by omega) (by omega) (hD.cg (up_n (by omega)) (fun _ _ _ => rfl) rfl rfl) (fun a ha => by rw [up_n ha, h3 a ha]) (fun j hj => by rw [up_m (by omega), h4 j hj]) (fun p hp => ?_)
      rw [e1l] at hp
      rw [e1]
      by_cases hpp : p = (cnd m i w).length
      · subst hpp
        rw [up_s]
        simp only [enc, List.getElem?_concat_length, ec]
        rw [c2, nI_clamp (by omega)]
      · rw [up_m (by omega), h5 p (by omega)]
        simp only [enc]
        rw [List.getElem?_append_left (by omega)]
theorem sc292 {b l : Nat} {k315 : Mem → Option (Int32 × Mem)} (hb : b + 8 ≤ 48) : ∀ d p n (N : Mem), p + d = 4 → d < n → l ≤ p → (∀ a, a ≠ 147 → N a = M a) → (∀ j, N 147 j = if b + 4 + l ≤ j ∧ j < b + 4 + p then 0 else M 147 j) →
    ∃ N', f_L_scan_L292 fu (nI b) k315 n (nI p) N = k315 N' ∧ (∀ a, a ≠ 147 → N' a = M a) ∧ (∀ j, N' 147 j = if b + 4 + l ≤ j ∧ j < b + 8 then 0 else M 147 j) := by
  intro d
  induction d with
  | zero =>
    intro p n N h1 h2 h0 h3 h4
    obtain ⟨n, rfl⟩ := fu1 h2
    obtain rfl : p = 4 := by omega
    refine ⟨N, ?_, h3, h4⟩
    simp (disch := omega) only [f_L_scan_L292, lit, nI_add, pk_mul, pk_sub, nI_clamp, inb_nI, nI_leI, nI_ltI, nI_eq, add_m1, ↓reduceIte, grd_true, nm_d, jn_d, bd_some, bm_some, om_some, om_none, Nat.le_refl]
  | succ d ih =>
    intro p n N h1 h2 h0 h3 h4
    obtain ⟨n, rfl⟩ := fu1 h2
    have h5 : ¬ 4 ≤ p := by omega
    have e5 : nI b + 4 + nI p = nI (b + 4 + p) := by rw [show (4 : Int32) = nI 4 from rfl, nI_add, nI_add]
    simp (disch := omega) only [f_L_scan_L292, e5, lit, nI_add, pk_mul, pk_sub, nI_clamp, inb_nI, nI_leI, nI_ltI, nI_eq, add_m1, ↓reduceIte, grd_true, nm_d, jn_d, bd_some, bm_some, om_some, om_none, h5]
    refine ih (p + 1) n _ (by omega) (by omega) (by omega) (fun a ha => by rw [up_n ha, h3 a ha]) (fun j => ?_)
    by_cases hj : j = b + 4 + p
    · subst hj
      rw [up_s, if_pos (by omega)]
      rfl
    · rw [up_m hj, h4]
      by_cases h7 : b + 4 + l ≤ j ∧ j < b + 4 + p
      · rw [if_pos h7, if_pos (by omega)]
      · rw [if_neg h7, if_neg (by omega)]
theorem sc318 {k358 : Mem → Option (Int32 × Mem)} (hi : i < 3) (he : e < 6) (hA : RWa M 149 150 i A) (h3 : M 152 3 = nI e) : ∀ d p n (N : Mem), p + d = A.length → d < n → (∀ a, a ≠ 148 → N a = M a) → (∀ j, lg (N 148) j = if 10 * e ≤ j ∧ j < 10 * e + p then lg (M 149) (10 * i + (j - 10 * e)) else lg (M 148) j) →
    ∃ N', f_L_scan_L318 fu (nI i) k358 n (nI p) N = k358 N' ∧ (∀ a, a ≠ 148 → N' a = M a) ∧ (∀ j, lg (N' 148) j = if 10 * e ≤ j ∧ j < 10 * e + A.length then lg (M 149) (10 * i + (j - 10 * e)) else lg (M 148) j) := by
  have hl := hA.2.1
  intro d
  induction d with
  | zero =>
    intro p n N h1 h2 h3' h4
    obtain ⟨n, rfl⟩ := fu1 h2
    obtain rfl : p = A.length := by omega
    refine ⟨N, ?_, h3', h4⟩
    simp (disch := omega) only [f_L_scan_L318, inb_nI, grd_true, nI_clamp, h3' 150 (by omega), hA.1, nI_leI, Nat.le_refl, if_true]
  | succ d ih =>
    intro p n N h1 h2 h3' h4
    obtain ⟨n, rfl⟩ := fu1 h2
    have h5 : ¬ A.length ≤ p := by omega
    have e5 : (10 : Int32) * nI i + nI p = nI (10 * i + p) := by rw [show (10 : Int32) = nI 10 from rfl, pk_mul, nI_add]
    have e6 : (10 : Int32) * nI e + nI p = nI (10 * e + p) := by rw [show (10 : Int32) = nI 10 from rfl, pk_mul, nI_add]
    simp (disch := omega) only [f_L_scan_L318, inb_nI, grd_true, nI_clamp, h3' 150 (by omega), h3' 152 (by omega), h3' 149 (by omega), h3, hA.1, nI_leI, h5, if_false, e5, e6, nm_d, nI_1]
    refine ih (p + 1) n _ (by omega) (by omega) (fun a ha => by rw [upL_n ha, h3' a ha]) (fun j => ?_)
    by_cases hj : j = 10 * e + p
    · subst hj
      rw [upL_s, if_pos (by omega)]
      congr 1
      omega
    · rw [upL_m hj, h4]
      by_cases h7 : 10 * e ≤ j ∧ j < 10 * e + p
      · rw [if_pos h7, if_pos (by omega)]
      · rw [if_neg h7, if_neg (by omega)]
theorem cnd_okn (hD : DL M m nS nL nC nO) (hG : DG m nS nL nC nO) : ∀ w, w ≤ nC → ∀ c ∈ cnd m i w, okn c := by
  intro w
  induction w with
  | zero => intro _ c hc; simp [cnd] at hc
  | succ w ih =>
    intro h c hc
    simp only [cnd] at hc
    split at hc
    · rw [List.mem_append] at hc
      rcases hc with hc | hc
      · exact ih (by omega) c hc
      · obtain ⟨a1, a2, a3, a4, hk, x1, x2⟩ := hD.2.2.2.1 w (by omega)
        obtain ⟨a, c', c1, c2, c3, c4, _⟩ := hG.2.2.2.2.2.2.2.2.1 w (by omega)
        simp at hc
        subst hc
        refine ⟨?_, hk, x1, x2⟩
        show (m 25 w).toNatClampNeg < 4
        rw [c2, nI_clamp (by omega)]
        exact c4
    · exact ih (by omega) c (by simpa using hc)
theorem keep_L (hfu : 5000 ≤ fu) (hi : i < nS) (hs6 : s < 6) (hD : DL M m nS nL nC nO) (hG : DG m nS nL nC nO) (hA : RWa M 149 150 i A) (hk : okW A) (hL : LCk M u sr kt L) (hl : L.length < 6) (hH : HIST M t u sr kt) (hT : M 152 1 = nI t) (h5 : m 5 s = nI (lw sr s u)) :
    ∃ N, scK fu (nI i) (nI s) M = some (0, N) ∧ LCk N u sr kt (L ++ [(s, nI t, m 5 s, none, none, cnd m i nC, A)]) ∧ (∀ a, a ≠ 147 → a ≠ 148 → a ≠ 152 → a ≠ 153 → N a = M a) ∧ (∀ j, j ≠ 3 → N 152 j = M 152 j) ∧ N 153 = if ct (snt m i) nC = 0 then upd (M 153) s (nI A.length) else M 153 := by
  have hS3 := hG.1.2
  have hC := hG.2.2.1.2
  have hal := hA.2.1
  have hcl := cnd_len (m := m) (i := i) (w := nC)
  let e := L.length
  have he : e < 6 := hl
  let M1 := up (up (up (up M 147 (8 * e) (nI s)) 147 (8 * e + 1) (nI t)) 147 (8 * e + 2) (nI u)) 147 (8 * e + 3) (nI A.length)
  have o1 : ∀ a, a ≠ 147 → M1 a = M a := fun a ha => by
    show up (up (up (up M _ _ _) _ _ _) _ _ _) _ _ _ a = _
    rw [up_n ha, up_n ha, up_n ha, up_n ha]
  have o2 : ∀ j, j < 8 * e ∨ 8 * e + 4 ≤ j → M1 147 j = M 147 j := fun j hj => by
    show up (up (up (up M _ _ _) _ _ _) _ _ _) _ _ _ 147 j = _
    rw [up_m (by omega), up_m (by omega), up_m (by omega), up_m (by omega)]
  obtain ⟨N1, a1, a2, a3, a4⟩ := sc199 (fu := fu) (i := i) (M := M1) (b := 8 * e) (k288 := fun (x14_24 : Int32) (M_25 : Mem) => f_L_scan_L292 fu (nI (8 * e)) (fun M_27 => f_L_scan_L318 fu (nI i) (fun (M_29 : Mem) => nm (up M_29 152 3 ((M_29 152 3) + 1)) (fun M_30 => (if x14_24 = 0 then grd (inb (nI s) 14) (nm (up M_30 153 (nI s).toNatClampNeg (M_30 150 (nI i).toNatClampNeg)) (fun M_33 => some ((0 : Int32), M_33))) else some ((0 : Int32), M_30)))) fu 0 M_27) fu x14_24 M_25) hfu hi hG (by omega) nC 0 fu M1 (by omega) (by omega) (hD.cg (o1 146 (by omega)) (fun _ _ _ => rfl) rfl rfl) (fun _ _ => rfl) (fun _ _ => rfl) (fun p hp => by simp [cnd] at hp)
  obtain ⟨N2, b1, b2, b3⟩ := sc292 (fu := fu) (M := N1) (b := 8 * e) (l := (cnd m i nC).length) (k315 := fun M_27 => f_L_scan_L318 fu (nI i) (fun (M_29 : Mem) => nm (up M_29 152 3 ((M_29 152 3) + 1)) (fun M_30 => (if nI (cnd m i nC).length = 0 then grd (inb (nI s) 14) (nm (up M_30 153 (nI s).toNatClampNeg (M_30 150 (nI i).toNatClampNeg)) (fun M_33 => some ((0 : Int32), M_33))) else some ((0 : Int32), M_30)))) fu 0 M_27) (by omega) (4 - (cnd m i nC).length) (cnd m i nC).length fu N1 (by omega) (by omega) (Nat.le_refl _) (fun _ _ => rfl) (fun j => by rw [if_neg (by omega)])
  have p2 : ∀ a, a ≠ 147 → N2 a = M a := fun a ha => by rw [b2 a ha, a2 a ha, o1 a ha]
  obtain ⟨N3, c1, c2, c3⟩ := sc318 (fu := fu) (M := N2) (e := e) (A := A) (k358 := fun (M_29 : Mem) => nm (up M_29 152 3 ((M_29 152 3) + 1)) (fun M_30 => (if nI (cnd m i nC).length = 0 then grd (inb (nI s) 14) (nm (up M_30 153 (nI s).toNatClampNeg (M_30 150 (nI i).toNatClampNeg)) (fun M_33 => some ((0 : Int32), M_33))) else some ((0 : Int32), M_30)))) (show i < 3 by omega) he (hA.cg2 (p2 150 (by omega)) (p2 149 (by omega))) (by rw [p2 152 (by omega)]; exact hL.1) A.length 0 fu N2 (by omega) (by omega) (fun _ _ => rfl) (fun j => by rw [if_neg (by omega)])
  have p3 : ∀ a, a ≠ 147 → a ≠ 148 → N3 a = M a := fun a h1 h2 => by rw [c2 a h2, p2 a h1]
  let N4 := up N3 152 3 (nI (e + 1))
  let N5 := if ct (snt m i) nC = 0 then up N4 153 s (nI A.length) else N4
  have o5 : ∀ a, a ≠ 153 → N5 a = N4 a := fun a ha => by
    show (if _ then _ else _ : Mem) a = _
    split
    · rw [up_n ha]
    · rfl
  have e1 : (8 : Int32) * nI e = nI (8 * e) := pk_mul 8 e
  have e2 : nI (8 * e) + 2 = nI (8 * e + 2) := nI_add _ 2
  have e3 : nI (8 * e) + 3 = nI (8 * e + 3) := nI_add _ 3
  have i3 : i < 3 := by omega
  have hE : scK fu (nI i) (nI s) M = some (0, N5) := by
    have z0 : scK fu (nI i) (nI s) M = f_L_scan_L199 fu (nI i) (nI (8 * e)) (fun (x14_24 : Int32) (M_25 : Mem) => f_L_scan_L292 fu (nI (8 * e)) (fun M_27 => f_L_scan_L318 fu (nI i) (fun (M_29 : Mem) => nm (up M_29 152 3 ((M_29 152 3) + 1)) (fun M_30 => (if x14_24 = 0 then grd (inb (nI s) 14) (nm (up M_30 153 (nI s).toNatClampNeg (M_30 150 (nI i).toNatClampNeg)) (fun M_33 => some ((0 : Int32), M_33))) else some ((0 : Int32), M_30)))) fu 0 M_27) fu x14_24 M_25) fu 0 0 M1 := by
      unfold scK
      rw [hL.1]
      refine nm_to (w := nI (8 * e)) e1 ?_
      refine grd_to (inb_nI (by omega) (by omega)) ?_
      refine nm_to (w := up M 147 (8 * e) (nI s)) (by rw [nI_clamp (by omega)]) ?_
      refine grd_to (by rw [nI_1]; exact inb_nI (by omega) (by omega)) ?_
      refine nm_to (w := up (up M 147 (8 * e) (nI s)) 147 (8 * e + 1) (nI t)) (by rw [nI_1, nI_clamp (by omega), up_n (show 152 ≠ 147 by omega), hT]) ?_
      refine grd_to (by rw [e2]; exact inb_nI (by omega) (by omega)) ?_
      refine nm_to (w := up (up (up M 147 (8 * e) (nI s)) 147 (8 * e + 1) (nI t)) 147 (8 * e + 2) (nI u)) (by rw [e2, nI_clamp (by omega), up_n (show 152 ≠ 147 by omega), up_n (show 152 ≠ 147 by omega), hH.1]) ?_
      refine grd_to (by rw [e3]; exact inb_nI (by omega) (by omega)) ?_
      refine nm_to (w := M1) (by rw [e3, nI_clamp (show 8 * e + 3 < 2 ^ 31 by omega), nI_clamp (show i < 2 ^ 31 by omega), up_n (show 150 ≠ 147 by omega), up_n (show 150 ≠ 147 by omega), up_n (show 150 ≠ 147 by omega), hA.1]) ?_
      rfl
    have z1 : (nI (cnd m i nC).length = 0) = (ct (snt m i) nC = 0) := by
      rw [cnd_ct, lit, nI_eq (by have := ct_le (P := snt m i) (n := nC); omega) (by omega)]
    rw [z0]
    refine a1.trans (b1.trans (c1.trans ?_))
    have n33 : N3 152 3 = nI e := by rw [p3 152 (by omega) (by omega)]; exact hL.1
    have n3i : up N3 152 3 (nI (e + 1)) 150 i = nI A.length := by rw [up_n (by omega), p3 150 (by omega) (by omega)]; exact hA.1
    simp only [nm_d, n33, nI_1, z1]
    rw [inb_nI (show s < 14 by omega) (by omega), grd_true, nI_clamp (show s < 2 ^ 31 by omega), nI_clamp (show i < 2 ^ 31 by omega), n3i]
    show _ = some ((0 : Int32), (if ct (snt m i) nC = 0 then up N4 153 s (nI A.length) else N4))
    by_cases hc0 : ct (snt m i) nC = 0
    · rw [if_pos hc0, if_pos hc0]
    · rw [if_neg hc0, if_neg hc0]
  have q147 : N5 147 = N2 147 := by rw [o5 147 (by omega)]; show up N3 152 3 _ 147 = _; rw [up_n (by omega), c2 147 (by omega)]
  have q148 : N5 148 = N3 148 := by rw [o5 148 (by omega)]; show up N3 152 3 _ 148 = _; rw [up_n (by omega)]
  have q152 : ∀ j, j ≠ 3 → N5 152 j = M 152 j := fun j hj => by rw [o5 152 (by omega)]; show up N3 152 3 _ 152 j = _; rw [up_m hj, p3 152 (by omega) (by omega)]
  have hlen : (L ++ [(s, nI t, m 5 s, none, none, cnd m i nC, A)]).length = e + 1 := by simp; rfl
  refine ⟨N5, hE, ⟨?_, by omega, fun k E hk' => ?_⟩, fun a z1 z2 z3 z4 => ?_, q152, ?_⟩
  · rw [o5 152 (by omega), hlen]; exact up_s
  · have hkl := gl_lt hk'
    rw [hlen] at hkl
    by_cases hke : k = e
    · subst hke
      rw [show e = L.length from rfl, List.getElem?_concat_length] at hk'
      cases hk'
      refine ⟨u, Nat.le_refl _, ⟨?_, ?_, ?_, ?_, fun p hp => ?_⟩, ⟨hal, fun p r hp => ?_⟩, h5, ?_, ?_, hk, by show (cnd m i nC).length ≤ 4; omega, cnd_okn hD hG nC (Nat.le_refl _), hs6⟩
      · rw [q147, b3, if_neg (by omega), a3 _ (by omega)]
        show up (up (up (up M _ _ _) _ _ _) _ _ _) _ _ _ 147 (8 * e) = _
        rw [up_m (by omega), up_m (by omega), up_m (by omega), up_s]
      · rw [q147, b3, if_neg (by omega), a3 _ (by omega)]
        show up (up (up (up M _ _ _) _ _ _) _ _ _) _ _ _ 147 (8 * e + 1) = _
        rw [up_m (by omega), up_m (by omega), up_s]
      · rw [q147, b3, if_neg (by omega), a3 _ (by omega)]
        show up (up (up (up M _ _ _) _ _ _) _ _ _) _ _ _ 147 (8 * e + 2) = _
        rw [up_m (by omega), up_s]
      · rw [q147, b3, if_neg (by omega), a3 _ (by omega)]
        show up (up (up (up M _ _ _) _ _ _) _ _ _) _ _ _ 147 (8 * e + 3) = _
        rw [up_s]
      · rw [q147, b3]
        by_cases hpl : p < (cnd m i nC).length
        · rw [if_neg (by omega)]
          exact a4 p hpl
        · rw [if_pos (by omega)]
          show (0 : Int32) = enc (cnd m i nC) p
          simp only [enc]
          rw [List.getElem?_eq_none (by omega)]
      · have hpl : p < A.length := gl_lt hp
        rw [q148, c3, if_pos (by omega), p2 149 (by omega), show 10 * e + p - 10 * e = p by omega]
        exact hA.2.2 p r hp
      · show none = (fw sr s u u).map _
        cases hf : fw sr s u u with
        | none => rfl
        | some w => have := fw_in hf; omega
      · show none = (mk sr kt s u u).map _
        cases hf : mk sr kt s u u with
        | none => rfl
        | some w => obtain ⟨w', h1, h2, _⟩ := mk_in hf; omega
    · rw [List.getElem?_append_left (show k < L.length by omega)] at hk'
      refine (hL.2.2 k E hk').cg (fun j hj => ?_) (fun j hj => ?_)
      · rw [q147, b3, if_neg (by omega), a3 _ (by omega), o2 _ (by omega)]
      · rw [q148, c3, if_neg (by omega), p2 148 (by omega)]
  · rw [o5 a z4]; show up N3 152 3 _ a = _; rw [up_n z3, p3 a z1 z2]
  · have h153 : N4 153 = M 153 := by show up N3 152 3 _ 153 = _; rw [up_n (by omega), p3 153 (by omega) (by omega)]
    show (if ct (snt m i) nC = 0 then up N4 153 s (nI A.length) else N4 : Mem) 153 = _
    by_cases hc0 : ct (snt m i) nC = 0
    · rw [if_pos hc0, if_pos hc0, up_r, h153]
    · rw [if_neg hc0, if_neg hc0, h153]
end KeepL
