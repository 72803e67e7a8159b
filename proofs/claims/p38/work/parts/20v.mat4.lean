def kLe : Int32 → Mem → Option (Int32 × Mem) := fun x4_4 M_5 => (if (M_5 146 5) = 1 then (if x4_4 ≤ (M_5 146 4) then some (x4_4, M_5) else some ((M_5 146 4), M_5)) else some (x4_4, M_5))
section Mat4
variable {fu a1 a2 a3 i j k l s c q x a b nS nL nC nO lim made : Nat} {M m N n mm P M0 : Mem} {A F : Nat → List Row} {R : Nat → Row} {V : List Int32} {xx : Nat → Int32} {k170 : Mem → Option Mem} {hh : Bool}
theorem l54z {k249 : Int32 → Mem → Option (Int32 × Mem)} {nk : Nat} {x4 : Int32} (hM : LMs M a1 a2 mm nS nL nC nO A) : f_L_match_L54 fu a1 a2 a3 (nI i) k249 (nk + 1) x4 (nI (nJ nS A 1)) M = k249 x4 M := by
  have hS3 := hM.2.1.1.2
  simp only [f_L_match_L54, nm_d]
  by_cases h : nS ≤ 1
  · have h1 : M 146 0 ≤ 1 := by rw [hM.1.1.1, lit, nI_leI (by omega) (by omega)]; exact h
    have h2 : nJ nS A 1 = 1 := by simp only [nJ, show ¬ 1 < nS by omega, if_false]
    rw [if_pos h1, h2, if_pos (show (1 : Int32) ≤ nI 1 by decide)]
  · have h1 : ¬ M 146 0 ≤ 1 := by rw [hM.1.1.1, lit, nI_leI (by omega) (by omega)]; exact h
    have h2 : nJ nS A 1 = (A 1).length := by simp only [nJ, show 1 < nS by omega, if_true]
    have h3 := (hM.2.2 1 (by omega)).1
    have := h3.2.1
    rw [if_neg h1, h3.1, h2, if_pos ((nI_leI (by omega) (by omega)).mpr (Nat.le_refl _))]
theorem l54s {k249 : Int32 → Mem → Option (Int32 × Mem)} {nk : Nat} {x4 : Int32} (hfu : 5000 ≤ fu) (hM : LMs M a1 a2 mm nS nL nC nO A) (hj : j < nJ nS A 1) : f_L_match_L54 fu a1 a2 a3 (nI i) k249 (nk + 1) x4 (nI j) M = if hJ mm nS nC A 1 j = true then f_L_match_L102 fu a1 a2 a3 (nI i) (nI j) (fun x M => f_L_match_L54 fu a1 a2 a3 (nI i) k249 nk x (nI (j + 1)) M) fu x4 (nI 0) M else f_L_match_L54 fu a1 a2 a3 (nI i) k249 nk x4 (nI (j + 1)) M := by
  have hS3 := hM.2.1.1.2
  have eqs : f_L_match_L54 fu a1 a2 a3 (nI i) k249 (nk + 1) x4 (nI j) M = (if (if M 146 0 ≤ 1 then 1 else M a2 1) ≤ nI j then k249 x4 M else if M 146 0 ≤ 1 then f_L_match_L102 fu a1 a2 a3 (nI i) (nI j) (fun x M => f_L_match_L54 fu a1 a2 a3 (nI i) k249 nk x (nI j + 1) M) fu x4 (nI 0) M else grd (inb (10 + nI j) 30) (bd (f_L_hold fu 1 (lg (M a1) (10 + nI j).toNatClampNeg) 1 M) (fun r_64 => (if r_64 = 0 then f_L_match_L54 fu a1 a2 a3 (nI i) k249 nk x4 (nI j + 1) M else f_L_match_L102 fu a1 a2 a3 (nI i) (nI j) (fun x M => f_L_match_L54 fu a1 a2 a3 (nI i) k249 nk x (nI j + 1) M) fu x4 (nI 0) M)))) := rfl
  rw [eqs, nI_1]
  by_cases h : nS ≤ 1
  · have h1 : M 146 0 ≤ 1 := by rw [hM.1.1.1, lit, nI_leI (by omega) (by omega)]; exact h
    have h2 : nJ nS A 1 = 1 := by simp only [nJ, show ¬ 1 < nS by omega, if_false]
    have hk0 : j = 0 := by omega
    have hh : hJ mm nS nC A 1 j = true := by simp only [hJ, show ¬ 1 < nS by omega, if_false]
    rw [if_pos h1, if_pos h1, if_pos hh, if_neg (by rw [hk0]; decide)]
  · have h1' : ¬ M 146 0 ≤ 1 := by rw [hM.1.1.1, lit, nI_leI (by omega) (by omega)]; exact h
    have h2 : nJ nS A 1 = (A 1).length := by simp only [nJ, show 1 < nS by omega, if_true]
    obtain ⟨h3, h3'⟩ := hM.2.2 1 (by omega)
    have h10 := h3.2.1
    obtain ⟨r, hr⟩ := gl_some (R := A 1) (i := j) (by omega)
    have hh : hJ mm nS nC A 1 j = al (hA mm 1 r) nC := by simp only [hJ, show 1 < nS by omega, if_true, hr]
    have e1 : (10 : Int32) + nI j = nI (10 * 1 + j) := nI_add 10 j
    have hho : f_L_hold fu 1 (pk r) 1 M = some (bI (al (hA mm 1 r) nC)) := lhold_eq (all := true) (i := 1) hfu hM.1 hM.2.1 (by omega) (h3'.at hr).1 (h3'.at hr).2
    rw [if_neg h1', if_neg h1', h3.1, if_neg (by rw [nI_leI (by omega) (by omega)]; omega), e1, inb_nI (by omega) (by omega), grd_true, nI_clamp (by omega), h3.2.2 j r hr, hho, bd_some, hh]
    cases hz : al (hA mm 1 r) nC
    · rw [if_pos (show bI false = 0 from rfl), if_neg (by decide)]
    · rw [if_neg (show ¬ bI true = 0 by decide), if_pos rfl]
theorem l27z {k255 : Int32 → Mem → Option (Int32 × Mem)} {nk : Nat} {x4 : Int32} (hM : LMs M a1 a2 mm nS nL nC nO A) (hS0 : 0 < nS) : f_L_match_L27 fu a1 a2 a3 k255 (nk + 1) x4 (nI (A 0).length) M = k255 x4 M := by
  have h3 := (hM.2.2 0 hS0).1
  have := h3.2.1
  simp only [f_L_match_L27]
  rw [h3.1, if_pos ((nI_leI (by omega) (by omega)).mpr (Nat.le_refl _))]
theorem l27s {k255 : Int32 → Mem → Option (Int32 × Mem)} {nk : Nat} {x4 : Int32} (hfu : 5000 ≤ fu) (hM : LMs M a1 a2 mm nS nL nC nO A) (hS0 : 0 < nS) (hi : i < (A 0).length) : f_L_match_L27 fu a1 a2 a3 k255 (nk + 1) x4 (nI i) M = if hJ mm nS nC A 0 i = true then f_L_match_L54 fu a1 a2 a3 (nI i) (fun x M => f_L_match_L27 fu a1 a2 a3 k255 nk x (nI (i + 1)) M) fu x4 (nI 0) M else f_L_match_L27 fu a1 a2 a3 k255 nk x4 (nI (i + 1)) M := by
  obtain ⟨h3, h3'⟩ := hM.2.2 0 hS0
  have h10 := h3.2.1
  have eqs : f_L_match_L27 fu a1 a2 a3 k255 (nk + 1) x4 (nI i) M = (if M a2 0 ≤ nI i then k255 x4 M else grd (inb (nI i) 30) (bd (f_L_hold fu 0 (lg (M a1) (nI i).toNatClampNeg) 1 M) (fun r_14 => (if r_14 = 0 then f_L_match_L27 fu a1 a2 a3 k255 nk x4 (nI i + 1) M else f_L_match_L54 fu a1 a2 a3 (nI i) (fun x M => f_L_match_L27 fu a1 a2 a3 k255 nk x (nI i + 1) M) fu x4 (nI 0) M)))) := rfl
  obtain ⟨r, hr⟩ := gl_some (R := A 0) (i := i) (by omega)
  have hh : hJ mm nS nC A 0 i = al (hA mm 0 r) nC := by simp only [hJ, hS0, if_true, hr]
  have hho : f_L_hold fu 0 (pk r) 1 M = some (bI (al (hA mm 0 r) nC)) := lhold_eq (all := true) (i := 0) hfu hM.1 hM.2.1 hS0 (h3'.at hr).1 (h3'.at hr).2
  have hrow := h3.2.2 i r hr
  rw [Nat.mul_zero, Nat.zero_add] at hrow
  rw [eqs, nI_1, h3.1, if_neg (by rw [nI_leI (by omega) (by omega)]; omega), inb_nI (by omega) (by omega), grd_true, nI_clamp (by omega), hrow, hho, bd_some, hh]
  cases hz : al (hA mm 0 r) nC
  · rw [if_pos (show bI false = 0 from rfl), if_neg (by decide)]
  · rw [if_neg (show ¬ bI true = 0 by decide), if_pos rfl]
theorem ltail1 {k249 : Int32 → Mem → Option (Int32 × Mem)} {x4 : Int32} (hfu : 5000 ≤ fu) (hM : LMs M a1 a2 mm nS nL nC nO A) (h0 : hJ mm nS nC A 0 i = true) : ∀ d j nk, j + d = nJ nS A 1 → d < nk → (ct (hJ mm nS nC A 1) j = nnF (FF mm nC A) nS 1 ∨ nnF (FF mm nC A) nS 2 = 0) → f_L_match_L54 fu a1 a2 a3 (nI i) k249 nk x4 (nI j) M = k249 x4 M := by
  intro d
  induction d with
  | zero =>
    intro j nk e1 e2 e3
    obtain ⟨nk, rfl⟩ := fu1 e2
    obtain rfl : j = nJ nS A 1 := by omega
    exact l54z hM
  | succ d ih =>
    intro j nk e1 e2 e3
    obtain ⟨nk, rfl⟩ := fu1 e2
    rw [l54s hfu hM (by omega)]
    rcases e3 with e3 | e3
    · have hf : hJ mm nS nC A 1 j = false := by
        cases hh : hJ mm nS nC A 1 j with
        | false => rfl
        | true =>
          have h3 := ct_mono (P := hJ mm nS nC A 1) (show j + 1 ≤ nJ nS A 1 by omega)
          rw [← hJ_nn, ct_succ, hh, if_pos rfl] at h3
          omega
      rw [hf, if_neg (by decide)]
      exact ih (j + 1) nk (by omega) (by omega) (Or.inl (by rw [ct_succ, hf, if_neg (by decide), Nat.add_zero]; exact e3))
    · have hn2 : nJ nS A 2 < fu := by
        simp only [nJ]
        split
        · have := (hM.2.2 2 (by assumption)).1.2.1; omega
        · omega
      cases hh : hJ mm nS nC A 1 j with
      | false =>
        rw [if_neg (by decide)]
        exact ih (j + 1) nk (by omega) (by omega) (Or.inr e3)
      | true =>
        rw [if_pos rfl, ltail2 hfu hM h0 hh (nJ nS A 2) 0 fu (by omega) hn2 (by rw [e3]; rfl)]
        exact ih (j + 1) nk (by omega) (by omega) (Or.inr e3)
theorem ltail0 {k255 : Int32 → Mem → Option (Int32 × Mem)} {x4 : Int32} (hfu : 5000 ≤ fu) (hM : LMs M a1 a2 mm nS nL nC nO A) (hS0 : 0 < nS) : ∀ d i nk, i + d = (A 0).length → d < nk → (ct (hJ mm nS nC A 0) i = nnF (FF mm nC A) nS 0 ∨ nnF (FF mm nC A) nS 1 = 0 ∨ nnF (FF mm nC A) nS 2 = 0) → f_L_match_L27 fu a1 a2 a3 k255 nk x4 (nI i) M = k255 x4 M := by
  have hn0 : nJ nS A 0 = (A 0).length := by simp only [nJ, hS0, if_true]
  intro d
  induction d with
  | zero =>
    intro i nk e1 e2 e3
    obtain ⟨nk, rfl⟩ := fu1 e2
    obtain rfl : i = (A 0).length := by omega
    exact l27z hM hS0
  | succ d ih =>
    intro i nk e1 e2 e3
    obtain ⟨nk, rfl⟩ := fu1 e2
    rw [l27s hfu hM hS0 (by omega)]
    rcases e3 with e3 | e3
    · have hf : hJ mm nS nC A 0 i = false := by
        cases hh : hJ mm nS nC A 0 i with
        | false => rfl
        | true =>
          have h3 := ct_mono (P := hJ mm nS nC A 0) (show i + 1 ≤ nJ nS A 0 by omega)
          rw [← hJ_nn, ct_succ, hh, if_pos rfl] at h3
          omega
      rw [hf, if_neg (by decide)]
      exact ih (i + 1) nk (by omega) (by omega) (Or.inl (by rw [ct_succ, hf, if_neg (by decide), Nat.add_zero]; exact e3))
    · have hn1 : nJ nS A 1 < fu := by
        simp only [nJ]
        split
        · have := (hM.2.2 1 (by assumption)).1.2.1; omega
        · omega
      cases hh : hJ mm nS nC A 0 i with
      | false =>
        rw [if_neg (by decide)]
        exact ih (i + 1) nk (by omega) (by omega) (Or.inr e3)
      | true =>
        rw [if_pos rfl, ltail1 hfu hM hh (nJ nS A 1) 0 fu (by omega) hn1 (by
          rcases e3 with h | h
          · left; rw [h]; rfl
          · right; exact h)]
        exact ih (i + 1) nk (by omega) (by omega) (Or.inr e3)
theorem lmid {Q : Option (Int32 × Mem) → Option Mem → Prop} {k249 : Int32 → Mem → Option (Int32 × Mem)} (hfu : 5000 ≤ fu) (hS0 : 0 < nS) (hO : 0 < nO) (hV : V.length ≤ 12) (hVm : ∀ R : Nat → Row, (∀ j, j < nS → R j ∈ FF mm nC A j) → ov mm R 0 ∈ V) (hM0 : LMs M0 a1 a2 mm nS nL nC nO A) (ha3 : a3 ≠ 146 ∧ a3 ≠ a1 ∧ a3 ≠ a2) (h0 : hJ mm nS nC A 0 i = true) (ha : ct (hJ mm nS nC A 0) i < nnF (FF mm nC A) nS 0) (h2 : 0 < nnF (FF mm nC A) nS 2) (n2 : nnF (FF mm nC A) nS 2 ≤ 12)
    (hk : ∀ N n made fl, ERl mm (FF mm nC A) made (N a3) n nS nL nC nO lim V → (∀ x, x ≠ a3 → N x = M0 x) → AT n nS (ct (hJ mm nS nC A 0) i) (nnF (FF mm nC A) nS 1 - 1) (nnF (FF mm nC A) nS 2 - 1) → meas (FF mm nC A) nS (ct (hJ mm nS nC A 0) i) (nnF (FF mm nC A) nS 1 - 1) (nnF (FF mm nC A) nS 2 - 1) < fl → Q (k249 (nI made) N) (waitM fu k170 fl n)) : ∀ d j nk fl (M m : Mem) made, j + d = nJ nS A 1 → d < nk → ct (hJ mm nS nC A 1) j < nnF (FF mm nC A) nS 1 → meas (FF mm nC A) nS (ct (hJ mm nS nC A 0) i) (ct (hJ mm nS nC A 1) j) 0 + 1 < fl → ERl mm (FF mm nC A) made (M a3) m nS nL nC nO lim V → (∀ x, x ≠ a3 → M x = M0 x) → AT m nS (ct (hJ mm nS nC A 0) i) (ct (hJ mm nS nC A 1) j) 0 → Q (f_L_match_L54 fu a1 a2 a3 (nI i) k249 nk (nI made) (nI j) M) (f_X11_makes_L126 fu k170 fl 1 m) := by
  have hn2 : nJ nS A 2 < fu := by
    simp only [nJ]
    split
    · have := (hM0.2.2 2 (by assumption)).1.2.1; omega
    · omega
  intro d
  induction d with
  | zero =>
    intro j nk fl M m made e1 e2 e3
    rw [hJ_nn 1, show j = nJ nS A 1 by omega] at e3
    omega
  | succ d ih =>
    intro j nk fl M m made e1 e2 e3 e4 hE hF hAT
    obtain ⟨nk, rfl⟩ := fu1 e2
    have hM := hM0.cg ha3 hF
    rw [l54s hfu hM (by omega)]
    cases hh : hJ mm nS nC A 1 j with
    | false =>
      rw [if_neg (by decide)]
      have hc : ct (hJ mm nS nC A 1) (j + 1) = ct (hJ mm nS nC A 1) j := by rw [ct_succ, hh, if_neg (by decide), Nat.add_zero]
      exact ih (j + 1) nk fl M m made (by omega) (by omega) (by rw [hc]; exact e3) (by rw [hc]; exact e4) hE hF (by rw [hc]; exact hAT)
    | true =>
      rw [if_pos rfl]
      have hc : ct (hJ mm nS nC A 1) (j + 1) = ct (hJ mm nS nC A 1) j + 1 := by rw [ct_succ, hh, if_pos rfl]
      refine linner (M0 := M0) hfu hS0 hO hV hVm hM0 ha3 h0 hh ha e3 (fun N n made' fl' hE' hF' hAT' hms' => ?_) (nJ nS A 2) 0 fu fl M m made (by omega) hn2 h2 e4 hE hF hAT
      by_cases hlast : ct (hJ mm nS nC A 1) j + 1 = nnF (FF mm nC A) nS 1
      · show Q (f_L_match_L54 fu a1 a2 a3 (nI i) k249 nk (nI made') (nI (j + 1)) N) _
        rw [ltail1 hfu (hM0.cg ha3 hF') h0 d (j + 1) nk (by omega) (by omega) (Or.inl (by rw [hc]; exact hlast))]
        have hcn : ct (hJ mm nS nC A 1) j = nnF (FF mm nC A) nS 1 - 1 := by omega
        rw [hcn] at hAT' hms'
        exact hk N n made' fl' hE' hF' hAT' hms'
      · obtain ⟨n', y1, y2⟩ := wait_ok (fu := fu) (k170 := k170) (k := fl') hfu (by omega) hE'.1 hS0 ha e3 (show nnF (FF mm nC A) nS 2 - 1 < nnF (FF mm nC A) nS 2 by omega) hAT'
        have hms : meas (FF mm nC A) nS (ct (hJ mm nS nC A 0) i) (ct (hJ mm nS nC A 1) j + 1) 0 + 1 ≤ meas (FF mm nC A) nS (ct (hJ mm nS nC A 0) i) (ct (hJ mm nS nC A 1) j) (nnF (FF mm nC A) nS 2 - 1) := by simp only [meas]; omega
        rcases y2 with ⟨x1, _⟩ | ⟨x1, x2, x3, x4⟩ | ⟨_, x1, _⟩ | ⟨_, x1, _⟩
        · omega
        · rw [x3]
          exact ih (j + 1) nk fl' N n' made' (by omega) (by omega) (by omega) (by rw [hc]; omega) ⟨y1, hE'.2⟩ hF' (by rw [hc]; exact x4)
        · omega
        · omega
theorem lout3 {Q : Option (Int32 × Mem) → Option Mem → Prop} {k255 : Int32 → Mem → Option (Int32 × Mem)} (hfu : 5000 ≤ fu) (hS0 : 0 < nS) (hO : 0 < nO) (hV : V.length ≤ 12) (hVm : ∀ R : Nat → Row, (∀ j, j < nS → R j ∈ FF mm nC A j) → ov mm R 0 ∈ V) (hM0 : LMs M0 a1 a2 mm nS nL nC nO A) (ha3 : a3 ≠ 146 ∧ a3 ≠ a1 ∧ a3 ≠ a2) (h1 : 0 < nnF (FF mm nC A) nS 1) (n1 : nnF (FF mm nC A) nS 1 ≤ 12) (h2 : 0 < nnF (FF mm nC A) nS 2) (n2 : nnF (FF mm nC A) nS 2 ≤ 12)
    (hk : ∀ N n made, ERl mm (FF mm nC A) made (N a3) n nS nL nC nO lim V → (∀ x, x ≠ a3 → N x = M0 x) → Q (k255 (nI made) N) (k170 n)) : ∀ d i nk fl (M m : Mem) made, i + d = (A 0).length → d < nk → ct (hJ mm nS nC A 0) i < nnF (FF mm nC A) nS 0 → meas (FF mm nC A) nS (ct (hJ mm nS nC A 0) i) 0 0 + 1 < fl → ERl mm (FF mm nC A) made (M a3) m nS nL nC nO lim V → (∀ x, x ≠ a3 → M x = M0 x) → AT m nS (ct (hJ mm nS nC A 0) i) 0 0 → Q (f_L_match_L27 fu a1 a2 a3 k255 nk (nI made) (nI i) M) (f_X11_makes_L126 fu k170 fl 1 m) := by
  have hn0 : nJ nS A 0 = (A 0).length := by simp only [nJ, hS0, if_true]
  have hn1 : nJ nS A 1 < fu := by
    simp only [nJ]
    split
    · have := (hM0.2.2 1 (by assumption)).1.2.1; omega
    · omega
  intro d
  induction d with
  | zero =>
    intro i nk fl M m made e1 e2 e3
    rw [hJ_nn 0, hn0, show i = (A 0).length by omega] at e3
    omega
  | succ d ih =>
    intro i nk fl M m made e1 e2 e3 e4 hE hF hAT
    obtain ⟨nk, rfl⟩ := fu1 e2
    have hM := hM0.cg ha3 hF
    rw [l27s hfu hM hS0 (by omega)]
    cases hh : hJ mm nS nC A 0 i with
    | false =>
      rw [if_neg (by decide)]
      have hc : ct (hJ mm nS nC A 0) (i + 1) = ct (hJ mm nS nC A 0) i := by rw [ct_succ, hh, if_neg (by decide), Nat.add_zero]
      exact ih (i + 1) nk fl M m made (by omega) (by omega) (by rw [hc]; exact e3) (by rw [hc]; exact e4) hE hF (by rw [hc]; exact hAT)
    | true =>
      rw [if_pos rfl]
      have hc : ct (hJ mm nS nC A 0) (i + 1) = ct (hJ mm nS nC A 0) i + 1 := by rw [ct_succ, hh, if_pos rfl]
      refine lmid (M0 := M0) hfu hS0 hO hV hVm hM0 ha3 hh e3 h2 n2 (fun N n made' fl' hE' hF' hAT' hms' => ?_) (nJ nS A 1) 0 fu fl M m made (by omega) hn1 h1 e4 hE hF hAT
      obtain ⟨n', y1, y2⟩ := wait_ok (fu := fu) (k170 := k170) (k := fl') hfu (by omega) hE'.1 hS0 e3 (show nnF (FF mm nC A) nS 1 - 1 < nnF (FF mm nC A) nS 1 by omega) (show nnF (FF mm nC A) nS 2 - 1 < nnF (FF mm nC A) nS 2 by omega) hAT'
      have hms : ct (hJ mm nS nC A 0) i + 1 < nnF (FF mm nC A) nS 0 → meas (FF mm nC A) nS (ct (hJ mm nS nC A 0) i + 1) 0 0 + 1 ≤ meas (FF mm nC A) nS (ct (hJ mm nS nC A 0) i) (nnF (FF mm nC A) nS 1 - 1) (nnF (FF mm nC A) nS 2 - 1) := by intro _; simp only [meas]; omega
      rcases y2 with ⟨x1, _⟩ | ⟨x1, x2, _⟩ | ⟨_, _, x1, x2, x3⟩ | ⟨_, _, x1, x3⟩
      · omega
      · omega
      · rw [x2]
        exact ih (i + 1) nk fl' N n' made' (by omega) (by omega) (by omega) (by rw [hc]; have := hms x1; omega) ⟨y1, hE'.2⟩ hF' (by rw [hc]; exact x3)
      · obtain ⟨fl', rfl⟩ := fu1 hms'
        have e0 : f_X11_makes_L126 fu k170 (fl' + 1) 0 n' = k170 n' := by simp only [f_X11_makes_L126, ↓reduceIte]
        rw [x3, e0]
        show Q (f_L_match_L27 fu a1 a2 a3 k255 nk (nI made') (nI (i + 1)) N) _
        rw [ltail0 hfu (hM0.cg ha3 hF') hS0 d (i + 1) nk (by omega) (by omega) (Or.inl (by rw [hc]; exact x1))]
        exact hk N n' made' ⟨y1, hE'.2⟩ hF'
theorem zero6 {k24 : Mem → Option (Int32 × Mem)} : ∀ d x n (N : Mem), x + d = 60 → d < n → (∀ a, a ≠ a3 → N a = M a) → ∃ N', f_L_match_L6 fu a3 k24 n (nI x) N = k24 N' ∧ ∀ a, a ≠ a3 → N' a = M a := by
  intro d
  induction d with
  | zero =>
    intro x n N h1 h2 h3
    obtain ⟨n, rfl⟩ := fu1 h2
    obtain rfl : x = 60 := by omega
    exact ⟨N, by simp (disch := omega) only [f_L_match_L6, lit, nI_add, pk_mul, pk_sub, nI_clamp, inb_nI, nI_leI, nI_ltI, nI_eq, add_m1, ↓reduceIte, grd_true, nm_d, jn_d, bd_some, bm_some, om_some, om_none, Nat.le_refl], h3⟩
  | succ d ih =>
    intro x n N h1 h2 h3
    obtain ⟨n, rfl⟩ := fu1 h2
    have h5 : ¬ 60 ≤ x := by omega
    simp (disch := omega) only [f_L_match_L6, lit, nI_add, pk_mul, pk_sub, nI_clamp, inb_nI, nI_leI, nI_ltI, nI_eq, add_m1, ↓reduceIte, grd_true, nm_d, jn_d, bd_some, bm_some, om_some, om_none, h5]
    exact ih (x + 1) n _ (by omega) (by omega) (fun a ha => by rw [up_n ha, h3 a ha])
theorem match_L (hfu : 5000 ≤ fu) (hD : DL M m nS nL nC nO) (hG : DG m nS nL nC nO) (hS0 : 0 < nS) (hO : 0 < nO) (ha3 : a3 ≠ 146 ∧ a3 ≠ a1 ∧ a3 ≠ a2) (hX : ∀ i, i < nS → RX m hh i (A i)) (hR : ∀ i, i < nS → RWa M a1 a2 i (A i) ∧ okW (A i)) : ∃ N n k, f_L_match fu a1 a2 a3 M = some (nI k, N) ∧ f_X11_makes fu (bI hh) m = some n ∧ k ≤ 20 ∧ n 0 68 = nI k ∧ n 0 69 = nI (if m 0 38 = 0 then nO else 3) ∧ (∀ x c, x < k → c < (if m 0 38 = 0 then nO else 3) → N a3 (3 * x + c) = n 52 (3 * x + c)) ∧ (∀ x, x ≠ a3 → N x = M x) ∧ (∀ x, x ≠ 0 → (x < 49 ∨ 55 < x) → n x = m x) ∧ ∀ j, j ≠ 68 → j ≠ 69 → j ≠ 71 → n 0 j = m 0 j := by
  have hS3 := hG.1.2
  obtain ⟨lim, l1, l2, l3⟩ := hG.2.2.2.2.1
  have hok : ∀ i, i < nS → okR (A i) := fun i hi r hr => ((hR i hi).2 r hr).2
  have hlim : lim ≤ 20 := by
    obtain ⟨kl, k1, k2, k3⟩ := hD.1.2.2.2.2.2.2
    have := (nI_eq (by omega) (by omega)).mp (l3.symm.trans k3)
    omega
  obtain ⟨m1, r1, r2, r3⟩ := rowsAllL (fu := fu) (hh := hh) (A := A) (k := fun (x2_2 : Int32) (M_3 : Mem) => nm (up M_3 0 68 0) (fun M_4 => nm (up M_4 0 71 0) (fun M_5 => nm ((if (M_5 0 38) = 0 then (M_5 0 34) else 3) : Int32) (fun v_7 => nm (up M_5 0 69 v_7) (fun M_8 => f_X11_makes_L126 fu (kMm fu) fu x2_2 M_8))))) hfu m hok nS 0 fu m (by omega) (by omega) hG .rfl hX (fun i hi => by omega)
  generalize hfl : al (fun i => decide (0 < (FF m nC A i).length)) nS = flag at r1
  have hO3 := hG.2.2.2.1
  generalize hm2 : up (up (up m1 0 68 0) 0 71 0) 0 69 (nI (if m 0 38 = 0 then nO else 3)) = m2
  have f2 : ∀ x, x ≠ 0 → m2 x = m1 x := fun x hx => by rw [← hm2, up_n hx, up_n hx, up_n hx]
  have f20 : ∀ j, j ≠ 68 → j ≠ 69 → j ≠ 71 → m2 0 j = m1 0 j := fun j h1 h2 h3 => by rw [← hm2, up_m h2, up_m h3, up_m h1]
  have m10 : m1 0 = m 0 := r3 0 (by omega) (by omega) (by omega)
  have fD : DS m2 m := ⟨fun x z1 z2 => by rw [f2 x (by omega), r3 x (by omega) (by omega) (by omega)], fun j z1 z2 => by rw [f20 j (by omega) (by omega) (by omega), m10]⟩
  have h38' : m2 0 38 = m 0 38 := fD.2 38 (by omega) (by omega)
  have eM : f_X11_makes fu (bI hh) m = f_X11_makes_L126 fu (kMm fu) fu (bI flag) m2 := by
    have e1 : f_X11_makes fu (bI hh) m = f_X11_makes_L4 fu (bI hh) (fun (x2_2 : Int32) (M_3 : Mem) => nm (up M_3 0 68 0) (fun M_4 => nm (up M_4 0 71 0) (fun M_5 => nm ((if (M_5 0 38) = 0 then (M_5 0 34) else 3) : Int32) (fun v_7 => nm (up M_5 0 69 v_7) (fun M_8 => f_X11_makes_L126 fu (kMm fu) fu x2_2 M_8))))) fu (bI (al (fun i => decide (0 < (FF m nC A i).length)) 0)) (nI 0) m := rfl
    rw [e1, r1]
    refine nm_to (w := up m1 0 68 0) rfl ?_
    refine nm_to (w := up (up m1 0 68 0) 0 71 0) rfl ?_
    have ev : (if (up (up m1 0 68 0) 0 71 0 0 38) = 0 then (up (up m1 0 68 0) 0 71 0 0 34) else 3 : Int32) = nI (if m 0 38 = 0 then nO else 3) := by
      rw [up_m (by omega), up_m (by omega), up_m (by omega), up_m (by omega), m10, hO3.1]
      by_cases h : m 0 38 = 0
      · rw [if_pos h, if_pos h]
      · rw [if_neg h, if_neg h]; rfl
    refine nm_to ev ?_
    refine nm_to hm2 ?_
    rfl
  have hFeq : FF m nC A = FF m2 nC A := by funext i; simp only [FF, fD.cA]
  have hFok : ∀ j, j < nS → okR (FF m2 nC A j) := fun j hj r hr => hok j hj r (List.mem_filter.mp hr).1
  obtain ⟨sa, ca, q1, q2, q3, q4, q5⟩ := ov_get hG (o := 0) hO
  obtain ⟨M1, z1, z2⟩ := zero6 (fu := fu) (a3 := a3) (M := M) (k24 := fun M_2 => f_L_match_L27 fu a1 a2 a3 kLe fu 0 0 M_2) 60 0 fu M (by omega) (by omega) (fun _ _ => rfl)
  have eL : f_L_match fu a1 a2 a3 M = f_L_match_L27 fu a1 a2 a3 kLe fu (nI 0) (nI 0) M1 := by
    rw [show f_L_match fu a1 a2 a3 M = f_L_match_L6 fu a3 (fun M_2 => f_L_match_L27 fu a1 a2 a3 kLe fu 0 0 M_2) fu (nI 0) M from rfl, z1]
    rfl
  have hLM0 : LMs M a1 a2 m2 nS nL nC nO A := ⟨hD.cg rfl (fun a h1 h2 => fD.1 a h1 h2) (fD.2 37 (by omega) (by omega)) (fD.2 38 (by omega) (by omega)), hG.cg fD, hR⟩
  have hLM : LMs M1 a1 a2 m2 nS nL nC nO A := hLM0.cg ha3 z2
  have hlen : ∀ j, j < nS → (FF m2 nC A j).length ≤ 10 := fun j hj => Nat.le_trans (List.length_filter_le _ _) (hR j hj).1.2.1
  have hER : ERl m2 (FF m2 nC A) 0 (M1 a3) m2 nS nL nC nO lim ((FF m2 nC A sa).map (fun r => cel r ca)) := by
    refine ⟨⟨fk_DR (hG.cg fD) .rfl, hG.cg fD, ⟨by rw [fD.2 37 (by omega) (by omega)]; exact l3, l2, ⟨fun x h1 h2 _ => fk_n h1 h2, fun j hj => fk_90 hj, fun _ _ _ _ _ _ _ => rfl, fun _ _ _ => rfl⟩, .rfl⟩, fun j hj => ⟨fk_RC (by have := hlen j hj; omega), ?_, hFok j hj⟩, ?_⟩, by omega⟩
    · have := (r2 j hj).1
      rw [hFeq] at this
      exact this.cg (by rw [f2 49 (by omega)]) (fun x _ => by rw [f2 50 (by omega)])
    by_cases h38 : m2 0 38 = 0
    · rw [if_pos h38]
      refine ⟨0, by omega, fk_5, ?_, fun x o hx => by omega⟩
      rw [← hm2, up_m (by omega), up_m (by omega), up_s]; rfl
    · rw [if_neg h38]
      refine ⟨[], [], ⟨fk_5, fun x e he => by simp at he⟩, ⟨?_, fun x e he => by simp at he⟩, fun _ => rfl, fun i j e e' he => by simp at he, fun i j e e' he => by simp at he, fun e he => by simp at he⟩
      rw [← hm2, up_m (by omega), up_s]; rfl
  have hV : ((FF m2 nC A sa).map (fun r => cel r ca)).length ≤ 12 := by rw [List.length_map]; have := hlen sa q3; omega
  have hVm : ∀ R : Nat → Row, (∀ j, j < nS → R j ∈ FF m2 nC A j) → ov m2 R 0 ∈ (FF m2 nC A sa).map (fun r => cel r ca) := fun R hRm => by
    rw [ov_ds fD, q5]
    exact List.mem_map_of_mem (hRm sa q3)
  have n0 := nn_le hER.1 (j := 0) (by omega)
  have n1 := nn_le hER.1 (j := 1) (by omega)
  have n2 := nn_le hER.1 (j := 2) (by omega)
  have hA0 : (A 0).length < fu := by have := (hR 0 hS0).1.2.1; omega
  have fin : ∀ N n made, ERl m2 (FF m2 nC A) made (N a3) n nS nL nC nO lim ((FF m2 nC A sa).map (fun r => cel r ca)) → (∀ x, x ≠ a3 → N x = M1 x) → ∃ N' n' k, kLe (nI made) N = some (nI k, N') ∧ kMm fu n = some n' ∧ k ≤ 20 ∧ n' 0 68 = nI k ∧ n' 0 69 = nI (if m 0 38 = 0 then nO else 3) ∧ (∀ x c, x < k → c < (if m 0 38 = 0 then nO else 3) → N' a3 (3 * x + c) = n' 52 (3 * x + c)) ∧ (∀ x, x ≠ a3 → N' x = M x) ∧ (∀ x, x ≠ 0 → (x < 49 ∨ 55 < x) → n' x = m x) ∧ ∀ j, j ≠ 68 → j ≠ 69 → j ≠ 71 → n' 0 j = m 0 j := by
    intro N n made hE hF
    have hFr := hE.1.2.2.1.2.2.1
    have h38n : n 0 38 = m 0 38 := by rw [hFr.2.2.2 38 (by omega) (by omega), h38']
    have h34 : m2 0 34 = nI nO := by rw [fD.2 34 (by omega) (by omega)]; exact hO3.1
    have h6 : fkM m2 (FF m2 nC A) (nI made) (N a3) 90 6 = nI (if n 0 38 = 0 then nO else 3) := by
      rw [h38n]
      show (if m2 0 38 = 0 then m2 0 34 else 3) = _
      rw [h38', h34]
      by_cases h : m 0 38 = 0
      · rw [if_pos h, if_pos h]
      · rw [if_neg h, if_neg h]; rfl
    obtain ⟨N', n', y1, y2, y3, y4, y5, y6, y7⟩ := makeEnd (fu := fu) hfu (by omega) hV hE.1 h6 (by rw [hFr.2.2.2 69 (by omega) (by omega), ← hm2, up_s, h38n])
    obtain ⟨k, cols, k1, k2, k3, k4, k5, k6, k7⟩ := y3
    have hcols : cols = if m 0 38 = 0 then nO else 3 := by
      rw [y5 6 (by omega), h6, h38n] at k5
      exact ((nI_eq (by split <;> omega) (by omega)).mp k5).symm
    have h13 : fkM m2 (FF m2 nC A) (nI made) (N a3) 80 13 = nI lim := by
      rw [fk_d (by omega)]
      show m2 0 37 = _
      rw [fD.2 37 (by omega) (by omega)]; exact l3
    have hN'5 : N' = up (fkM m2 (FF m2 nC A) (nI made) (N a3)) 90 5 (if nI lim < nI made then nI lim else nI made) := by
      have : kMk 90 (fkM m2 (FF m2 nC A) (nI made) (N a3)) = some (up (fkM m2 (FF m2 nC A) (nI made) (N a3)) 90 5 (if nI lim < nI made then nI lim else nI made)) := by
        simp only [kMk, nm_d, h13, fk_5]
      rw [this] at y1
      exact (Option.some.inj y1).symm
    have hkv : (if nI lim < nI made then nI lim else nI made) = nI k := by rw [← k3, hN'5, up_s]
    have hmade := hE.2
    have hk20 : k ≤ 20 := by
      by_cases hlt : nI lim < nI made
      · rw [if_pos hlt] at hkv
        have := (nI_eq (by omega) (by omega)).mp hkv
        omega
      · rw [if_neg hlt] at hkv
        have := (nI_eq (by omega) (by omega)).mp hkv
        omega
    have hx : N' 91 = N a3 := by rw [hN'5, up_n (by omega), fk_91]
    have N5 : N 146 5 = m 0 38 := by rw [hF 146 (by omega), z2 146 (by omega)]; exact hD.1.2.2.2.2.2.1
    have N4 : N 146 4 = nI lim := by rw [hF 146 (by omega), z2 146 (by omega), hD.1.2.2.2.2.1]; exact l3
    refine ⟨N, n', k, ?_, y2, hk20, k4, by rw [← hcols]; exact k6, fun x c hx' hc => ?_, fun x hx' => by rw [hF x hx', z2 x hx'], fun x w1 w2 => by rw [y6 x w1 (by omega), hFr.2.2.1 x w1 (by omega) (by omega) (by omega) (by omega) (by omega), f2 x w1, r3 x (by omega) (by omega) (by omega)], fun j w1 w2 w3 => by rw [y7 j w1, hFr.2.2.2 j w1 w3, f20 j w1 w2 w3, m10]⟩
    · unfold kLe
      rw [N5, N4]
      by_cases h38 : m 0 38 = 1
      · rw [if_pos h38]
        by_cases hle : nI made ≤ nI lim
        · rw [if_pos hle, ← hkv, if_neg (Int32.not_lt.mpr hle)]
        · rw [if_neg hle, ← hkv, if_pos (Int32.not_le.mp hle)]
      · rw [if_neg h38, ← hkv]
        have h380 : m 0 38 = 0 := by
          rcases hG.2.2.2.2.2.1 with h | h
          · exact h
          · exact absurd h h38
        have hms := hE.1.2.2.2.2
        rw [h38n, if_pos h380] at hms
        obtain ⟨mk', w1, w2, w3, w4⟩ := hms
        rw [fk_5] at w2
        have := (nI_eq (by omega) (by omega)).mp w2
        rw [if_neg (nI_nlt (by omega) (by omega))]
    · have := k7 x c hx' (by rw [hcols]; exact hc)
      rw [show (90 + 1) = 91 by omega, hx] at this
      exact this
  rw [eL, eM]
  have nnr : ∀ j, j < nS → nnF (FF m2 nC A) nS j = (FF m2 nC A j).length := fun j hj => by simp only [nnF, hj, ↓reduceIte]
  have hn0 : nJ nS A 0 = (A 0).length := by simp only [nJ, hS0, if_true]
  rw [hFeq] at hfl
  cases flag with
  | true =>
    have hpos : ∀ j, j < 3 → 0 < nnF (FF m2 nC A) nS j := fun j hj => by
      by_cases hjs : j < nS
      · rw [nnr j hjs]
        have := al_lt hfl j hjs
        simpa using this
      · simp only [nnF, hjs, ↓reduceIte]; omega
    refine lout3 (fu := fu) (k255 := kLe) (k170 := kMm fu) (mm := m2) (M0 := M1) (Q := fun X Y => ∃ N n k, X = some (nI k, N) ∧ Y = some n ∧ k ≤ 20 ∧ n 0 68 = nI k ∧ n 0 69 = nI (if m 0 38 = 0 then nO else 3) ∧ (∀ x c, x < k → c < (if m 0 38 = 0 then nO else 3) → N a3 (3 * x + c) = n 52 (3 * x + c)) ∧ (∀ x, x ≠ a3 → N x = M x) ∧ (∀ x, x ≠ 0 → (x < 49 ∨ 55 < x) → n x = m x) ∧ ∀ j, j ≠ 68 → j ≠ 69 → j ≠ 71 → n 0 j = m 0 j) hfu hS0 hO hV hVm hLM ha3 (hpos 1 (by omega)) n1 (hpos 2 (by omega)) n2 (fun N n made hE hF => fin N n made hE hF) (A 0).length 0 fu fu M1 m2 0 (by omega) hA0 (hpos 0 (by omega)) (by simp only [meas, ct]; omega) hER (fun _ _ => rfl) ⟨fun h => ?_, fun h => ?_, fun h => ?_⟩
    · rw [f2 51 (by omega)]; exact (r2 0 h).2
    · rw [f2 51 (by omega)]; exact (r2 1 h).2
    · rw [f2 51 (by omega)]; exact (r2 2 h).2
  | false =>
    have hz : nnF (FF m2 nC A) nS 0 = 0 ∨ nnF (FF m2 nC A) nS 1 = 0 ∨ nnF (FF m2 nC A) nS 2 = 0 := by
      by_cases hex : ∃ j, j < nS ∧ (FF m2 nC A j).length = 0
      · obtain ⟨j, hj, hl⟩ := hex
        have := nnr j hj
        have hj3 : j = 0 ∨ j = 1 ∨ j = 2 := by omega
        rcases hj3 with rfl | rfl | rfl
        · exact Or.inl (by omega)
        · exact Or.inr (Or.inl (by omega))
        · exact Or.inr (Or.inr (by omega))
      · exfalso
        have : al (fun i => decide (0 < (FF m2 nC A i).length)) nS = true := al_of (fun j hj => by
          have : ¬ (FF m2 nC A j).length = 0 := fun h => hex ⟨j, hj, h⟩
          exact decide_eq_true (by omega))
        rw [hfl] at this
        cases this
    have e126 : f_X11_makes_L126 fu (kMm fu) fu (bI false) m2 = kMm fu m2 := by
      obtain ⟨f, hf⟩ := fu1 (show 0 < fu by omega)
      have : ∀ g, f_X11_makes_L126 fu (kMm fu) (g + 1) (bI false) m2 = kMm fu m2 := fun g => by
        have e : bI false = 0 := rfl
        rw [e]
        simp only [f_X11_makes_L126, ↓reduceIte]
      have h3 := this f
      rw [← hf] at h3
      exact h3
    rw [e126, ltail0 hfu hLM hS0 (A 0).length 0 fu (by omega) hA0 (by
      rcases hz with h | h | h
      · left; rw [h]; rfl
      · right; left; exact h
      · right; right; exact h)]
    exact fin M1 m2 0 hER (fun _ _ => rfl)
end Mat4
