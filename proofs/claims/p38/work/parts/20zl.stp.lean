/-! ===== steps: turns ===== -/
section StpL
variable {fu t u t1 u1 k0 s i j p c k q : Nat} {M m N n P M0 m0 : Mem} {v x y a b d e w p1 p2 p3 p4 p5 p6 : Int32}
theorem LR.stl (h : LR M m t u) (fM : ∀ a, 142 ≤ a → a ≤ 156 → a ≠ 155 → a ≠ 156 → N a = M a) (fm : ∀ a, 0 < a → a < 58 → n a = m a) (f0 : ∀ j, j ≠ 0 → j ≠ 85 → n 0 j = m 0 j) (hS : STL N n) (h3 : e3 N = true) : LR N n t u := by
  obtain ⟨RR, nS, nL, nC, nO, ⟨hT, hP, hG⟩, ⟨hD, hDG⟩, hR, ⟨hZ, hF, hA⟩, h2, hLA, _, _⟩ := h
  have hDS : DS n m := ⟨fun a z1 z2 => fm a (by omega) (by omega), fun j z1 z2 => f0 j (by omega) (by omega)⟩
  refine ⟨RR, nS, nL, nC, nO, ⟨hT.cg (fM 147 (by omega) (by omega) (by omega) (by omega)) (fM 148 (by omega) (by omega) (by omega) (by omega)) (fM 144 (by omega) (by omega) (by omega) (by omega)) (by rw [fM 152 (by omega) (by omega) (by omega) (by omega)]; exact ⟨rfl, rfl, rfl⟩) (f0 7 (by omega) (by omega)) (f0 8 (by omega) (by omega)) (f0 39 (by omega) (by omega)) (fm 5 (by omega) (by omega)) (fun a _ _ => fm a (by omega) (by omega)) (fm 10 (by omega) (by omega)), hP.cg (fM 145 (by omega) (by omega) (by omega) (by omega)) (fun a _ _ => fm a (by omega) (by omega)), hG.cg (fun a _ => fm a (by omega) (by omega))⟩, ⟨hD.cg (fM 146 (by omega) (by omega) (by omega) (by omega)) (fun a _ _ => fm a (by omega) (by omega)) (f0 37 (by omega) (by omega)) (f0 38 (by omega) (by omega)), hDG.cg hDS⟩, hR.cg (fM 142 (by omega) (by omega) (by omega) (by omega)) (fM 143 (by omega) (by omega) (by omega) (by omega)) (fm 1 (by omega) (by omega)) (fm 2 (by omega) (by omega)) (fm 3 (by omega) (by omega)), ⟨hZ.cg (fun j _ => by rw [fM 153 (by omega) (by omega) (by omega) (by omega)]) (fm 18 (by omega) (by omega)), fun s hs => by rw [fM 153 (by omega) (by omega) (by omega) (by omega), fm 17 (by omega) (by omega)]; exact hF s hs, fun s hs => by rw [fM 153 (by omega) (by omega) (by omega) (by omega), fm 4 (by omega) (by omega)]; exact hA s hs⟩, by rw [fM 152 (by omega) (by omega) (by omega) (by omega), f0 6 (by omega) (by omega)]; exact h2, ?_, hS, h3⟩
  simp only [LAN, fM 152 (by omega) (by omega) (by omega) (by omega), fM 154 (by omega) (by omega) (by omega) (by omega), f0 75 (by omega) (by omega), f0 76 (by omega) (by omega), fm 56 (by omega) (by omega), f0 78 (by omega) (by omega), f0 79 (by omega) (by omega), f0 80 (by omega) (by omega), f0 81 (by omega) (by omega), f0 82 (by omega) (by omega), f0 55 (by omega) (by omega)]
  exact hLA
theorem LR.st (h : LR M m t u) : STL M m := by
  obtain ⟨_, _, _, _, _, _, _, _, _, _, _, hS, _⟩ := h
  exact hS
theorem xstepE (h : (if f_X11_isSource p2 = 0 then (1 : Int32) else if f_X10_isStep p1 p4 p5 p6 = 0 then 2 else if m 0 85 = 4 then 3 else 0) = v) (hv : ¬ v ≤ 0) : f_X11_step fu p1 p2 p3 p4 p5 p6 m = some (0, up m 0 0 v) := by
  simp only [f_X11_step, nm_d, step0, h, up_s, hv, if_false]
theorem step_e (h : SM M m M0 m0 t u) (ht : t < 2 ^ 29) (hu : u < 2 ^ 29) (hk : k0 = 1 ∨ k0 = 2 ∨ k0 = 3) (hv : (if f_X11_isSource p2 = 0 then (1 : Int32) else if f_X10_isStep p1 p4 p5 p6 = 0 then 2 else if m 0 85 = 4 then 3 else 0) = nI k0) : ∃ M' m', f_L_step fu p1 p2 p3 p4 p5 p6 M = some (ek k0, M') ∧ SM M' m' M0 m0 t u := by
  obtain ⟨M', a1, a2⟩ := eC (k0 := k0) (cs := [1, 2, 3]) h (step_call (fu := fu) (p1 := p1) (p2 := p2) (p3 := p3) (p4 := p4) (p5 := p5) (p6 := p6) h.1) (xstepE hv (by rcases hk with rfl | rfl | rfl <;> decide)) .up0 (by rw [up_s]; rfl) (by rcases hk with rfl | rfl | rfl <;> decide) (by rcases hk with rfl | rfl | rfl <;> decide) (by rcases hk with rfl | rfl | rfl <;> simp) ht hu
  exact ⟨M', _, by rw [if_neg (by omega)] at a1; exact a1, a2⟩
theorem isStepK (hk : k < 3) (h11 : k = 2 → b = 0) (h13 : k = 2 → x = 0) (h15 : k ≠ 0 → y = 0) : ¬ f_X10_isStep (nI k) b x y = 0 := by
  have : k = 0 ∨ k = 1 ∨ k = 2 := by omega
  rcases this with rfl | rfl | rfl
  · simp (decide := true) [f_X10_isStep, nI]
  · rw [h15 (by omega)]
    simp (decide := true) [f_X10_isStep, nI]
  · rw [h15 (by omega), h11 rfl, h13 rfl]
    decide
theorem kK (hk : k < 3) : (nI k = 0) = (k = 0) ∧ (nI k = 1) = (k = 1) := ⟨by rw [show (0 : Int32) = nI 0 from rfl, nI_eq (by omega) (by omega)], by rw [show (1 : Int32) = nI 1 from rfl, nI_eq (by omega) (by omega)]⟩
theorem stp_0 (h : INV M m t u) (ht : t < 2 ^ 29) (hu : u < 2 ^ 29) (hk : k < 3) (hs : s < 6) (h11 : (k = 0 → okc b) ∧ (k = 1 → ∃ c, c < 4 ∧ b = nI c) ∧ (k = 2 → b = 0)) (h13 : (k ≠ 2 → okc x) ∧ (k = 2 → x = 0)) (h15 : (k = 0 → okc y) ∧ (k ≠ 0 → y = 0)) : RES (bm (f_L_step fu 0 6 0 0 0 0 M) (fun r_17 M_18 => (if r_17 = (-7100) then bm (f_L_step fu 3 (nI s) 0 0 0 0 M_18) (fun r_21 M_22 => (if r_21 = (-7200) then bm (f_L_step fu 1 (nI s) 0 0 0 1 M_22) (fun r_25 M_26 => (if r_25 = (-7200) then bm (f_L_step fu 2 (nI s) 0 1 0 0 M_26) (fun r_29 M_30 => (if r_29 = (-7200) then bm (f_L_step fu 2 (nI s) 0 0 1 0 M_30) (fun r_33 M_34 => (if r_33 = (-7200) then (if (M_34 156 0) = 4 then bm (f_L_step fu (nI k) (nI s) a b x y M_34) (fun r_56 M_57 => (if r_56 = (-7300) then some ((1 : Int32), M_57) else some ((0 : Int32), M_57))) else nm (6 * (M_34 156 0)) (fun x14_37 => grd (inb x14_37 24) (nm (up M_34 155 x14_37.toNatClampNeg (nI k)) (fun M_39 => grd (inb (x14_37 + 1) 24) (nm (up M_39 155 (x14_37 + 1).toNatClampNeg (nI s)) (fun M_41 => grd (inb (x14_37 + 2) 24) (nm (up M_41 155 (x14_37 + 2).toNatClampNeg a) (fun M_43 => grd (inb (x14_37 + 3) 24) (nm (up M_43 155 (x14_37 + 3).toNatClampNeg b) (fun M_45 => grd (inb (x14_37 + 4) 24) (nm (up M_45 155 (x14_37 + 4).toNatClampNeg x) (fun M_47 => grd (inb (x14_37 + 5) 24) (nm (up M_47 155 (x14_37 + 5).toNatClampNeg y) (fun M_49 => nm (up M_49 156 0 ((M_49 156 0) + 1)) (fun M_50 => bm (f_L_step fu (nI k) (nI s) a b x y M_50) (fun r_52 M_53 => (if r_52 = (M_53 156 0) then some ((1 : Int32), M_53) else some ((0 : Int32), M_53)))))))))))))))))) else some ((0 : Int32), M_34))) else some ((0 : Int32), M_30))) else some ((0 : Int32), M_26))) else some ((0 : Int32), M_22))) else some ((0 : Int32), M_18)))) t u := by
  refine ech (step_e (k0 := 1) h.sm ht hu (Or.inl rfl) (by rw [if_pos (by decide)]; rfl)) fun M2 m2 h2 => ?_
  refine ech (step_e (k0 := 2) h2 ht hu (Or.inr (Or.inl rfl)) (by rw [if_neg (isSr hs), if_pos (by decide)]; rfl)) fun M2 m2 h2 => ?_
  refine ech (step_e (k0 := 2) h2 ht hu (Or.inr (Or.inl rfl)) (by rw [if_neg (isSr hs), if_pos (by decide)]; rfl)) fun M2 m2 h2 => ?_
  refine ech (step_e (k0 := 2) h2 ht hu (Or.inr (Or.inl rfl)) (by rw [if_neg (isSr hs), if_pos (by decide)]; rfl)) fun M2 m2 h2 => ?_
  refine ech (step_e (k0 := 2) h2 ht hu (Or.inr (Or.inl rfl)) (by rw [if_neg (isSr hs), if_pos (by decide)]; rfl)) fun M3 m3 h3 => ?_
  have hI3 := h3.inv h.1
  have hst := isStepK hk h11.2.2 h13.2 h15.2
  obtain ⟨q, q4, w1, w2, w3⟩ := hI3.1.st
  have e4 : (nI q = 4) = (q = 4) := by rw [show (4 : Int32) = nI 4 from rfl, nI_eq (by omega) (by omega)]
  rw [w1]
  by_cases hq : q = 4
  · rw [if_pos (by rw [e4]; exact hq)]
    exact ech (step_e (k0 := 3) h3 ht hu (Or.inr (Or.inr rfl)) (by rw [if_neg (isSr hs), if_neg hst, w2, if_pos (by rw [e4]; exact hq)]; rfl)) fun M4 m4 h4 => .ok (h4.inv h.1)
  · rw [if_neg (by rw [e4]; exact hq)]
    have f1 : nI q + 1 = nI (q + 1) := nI_add q 1
    have e6 : (6 : Int32) * nI q = nI (6 * q) := by rw [show (6 : Int32) = nI 6 from rfl, pk_mul]
    have e61 : nI (6 * q) + 1 = nI (6 * q + 1) := nI_add _ 1
    have e62 : nI (6 * q) + 2 = nI (6 * q + 2) := nI_add _ 2
    have e63 : nI (6 * q) + 3 = nI (6 * q + 3) := nI_add _ 3
    have e64 : nI (6 * q) + 4 = nI (6 * q + 4) := nI_add _ 4
    have e65 : nI (6 * q) + 5 = nI (6 * q + 5) := nI_add _ 5
    have hq2 : ¬ nI q = 4 := by rw [e4]; exact hq
    have eM : f_X11_step fu (nI k) (nI s) a b x y m3 = some (nI (q + 1), up (up (up (up (up (up (up (up m3 0 0 0) 58 q (nI k)) 59 q (nI s)) 60 q a) 61 q b) 62 q x) 63 q y) 0 85 (nI (q + 1))) := by
      simp (disch := omega) only [f_X11_step, step0, nm_d, isSr hs, if_false, hst, w2, hq2, up_s, Int32.le_refl, if_true, up_m, up_n, inb_nI, grd_true, nI_clamp, f1]
    simp (disch := omega) only [nm_d, e6, e61, e62, e63, e64, e65, inb_nI, grd_true, nI_clamp, up_n, w1, f1]
    generalize hm' : up (up (up (up (up (up (up (up m3 0 0 0) 58 q (nI k)) 59 q (nI s)) 60 q a) 61 q b) 62 q x) 63 q y) 0 85 (nI (q + 1)) = m' at *
    generalize hM' : up (up (up (up (up (up (up M3 155 (6 * q) (nI k)) 155 (6 * q + 1) (nI s)) 155 (6 * q + 2) a) 155 (6 * q + 3) b) 155 (6 * q + 4) x) 155 (6 * q + 5) y) 156 0 (nI (q + 1)) = M' at *
    have hD : ∀ a, a ≠ 155 → a ≠ 156 → M' a = M3 a := fun a z1 z2 => by rw [← hM', up_n z2, up_n z1, up_n z1, up_n z1, up_n z1, up_n z1, up_n z1]
    have hd : ∀ a, 0 < a → a < 58 ∨ 63 < a → m' a = m3 a := fun a z1 z2 => by rw [← hm', up_n (by omega), up_n (by omega), up_n (by omega), up_n (by omega), up_n (by omega), up_n (by omega), up_n (by omega), up_n (by omega)]
    have hd0 : ∀ j, j ≠ 0 → j ≠ 85 → m' 0 j = m3 0 j := fun j z1 z2 => by rw [← hm', up_m z2, up_n (by omega), up_n (by omega), up_n (by omega), up_n (by omega), up_n (by omega), up_n (by omega), up_m z1]
    have h156 : M' 156 0 = nI (q + 1) := by rw [← hM', up_s]
    have hS : STL M' m' := by
      refine ⟨q + 1, by omega, h156, by rw [← hm', up_s], fun i hi => ?_⟩
      rw [← hM', ← hm']
      by_cases hin : i = q
      · subst hin
        simp (disch := omega) only [up_n, up_m, up_s]
        obtain ⟨k1, k2⟩ := kK hk
        refine ⟨trivial, trivial, trivial, trivial, trivial, trivial, ⟨s, hs, rfl⟩, ?_, fun z => h13.1 (fun y => z (by rw [y]; rfl)), fun z => ?_⟩
        · have : k = 0 ∨ k = 1 ∨ k = 2 := by omega
          rcases this with rfl | rfl | rfl
          · exact Or.inl rfl
          · exact Or.inr (Or.inl ⟨rfl, h11.2.1 rfl⟩)
          · exact Or.inr (Or.inr rfl)
        · rw [k1] at z
          exact ⟨h11.1 z, h15.1 z⟩
      · simp (disch := omega) only [up_n, up_m]
        exact w3 i (by omega)
    have hL : LR M' m' t u := hI3.1.stl (fun a _ _ z1 z2 => hD a z1 z2) (fun a z1 z2 => hd a z1 (Or.inl z2)) hd0 hS (by rw [e3_cg (hD 3 (by omega) (by omega))]; exact hI3.1.e3c)
    obtain ⟨M6, a1, a2, a3⟩ := rCall (k0 := 0) (cs := [1, 2, 3]) hL (step_call (fu := fu) (p1 := nI k) (p2 := nI s) (p3 := a) (p4 := b) (p5 := x) (p6 := y) (hI3.2.cgC (fun a ha => hD a (by omega) (by omega)))) eM (by rw [← hm', up_m (by omega), up_n (by omega), up_n (by omega), up_n (by omega), up_n (by omega), up_n (by omega), up_n (by omega), up_s]; rfl) (by decide) (by decide) (by decide) ht (by omega) hu
    have a1' : f_L_step fu (nI k) (nI s) a b x y M' = some (nI (q + 1), M6) := a1
    rw [a1', bm_some, if_pos (by rw [a3 156 (by omega), h156])]
    exact .ok a2
theorem steps_ok (h : INV M m t u) (ht : t < 2 ^ 29) (hu : u < 2 ^ 29) : RES (f_L_steps fu p1 p2 M) t u := by
  unfold f_L_steps
  obtain ⟨RR, hR, hW⟩ := h.wr
  refine lowK (j := 3) rfl (by omega) (by omega) fun k hk => lowK (j := 6) rfl (by omega) (by omega) fun s hs => ?_
  obtain ⟨k1, k2⟩ := kK hk
  rw [inb_nI (by omega) (by omega), grd_true]
  refine jnK (P := fun _ => True) ?_ ?_
  · intro v7 _
    refine jnK (P := fun _ => True) ?_ ?_
    · intro a _
      refine jnK (P := fun b => (k = 0 → okc b) ∧ (k = 1 → ∃ c, c < 4 ∧ b = nI c) ∧ (k = 2 → b = 0)) ?_ ?_
      · intro b hb
        refine jnK (P := fun x => (k ≠ 2 → okc x) ∧ (k = 2 → x = 0)) ?_ ?_
        · intro x hx
          refine jnK (P := fun y => (k = 0 → okc y) ∧ (k ≠ 0 → y = 0)) ?_ ?_
          · intro y hy
            exact stp_0 h ht hu hk hs hb hx hy
          · intro q hq
            have ok0 : RES (q 0) t u := hq 0 ⟨fun _ => Or.inr (Or.inr (by decide)), fun _ => rfl⟩
            refine jnK (P := fun _ => True) (fun _ _ => ok0) fun q' hq' => ?_
            refine RES.if (fun z => ?_) (fun _ => hq' _ trivial)
            rw [k1] at z
            exact RES.if (fun _ => hq' _ trivial) (fun _ => cbK fun w hw => hq _ ⟨fun _ => hw, fun y => absurd z y⟩)
        · intro q hq
          refine RES.if (fun z => ?_) (fun z => RES.if (fun z' => ?_) (fun z' => ?_))
          · rw [k1] at z
            exact RES.if (fun _ => hq 0 ⟨fun _ => Or.inr (Or.inr (by decide)), fun y => rfl⟩) (fun _ => cbK fun w hw => hq _ ⟨fun _ => hw, fun y => by omega⟩)
          · rw [k2] at z'
            exact cbK fun w hw => hq _ ⟨fun _ => hw, fun y => by omega⟩
          · rw [k1] at z
            rw [k2] at z'
            exact hq 0 ⟨fun y => absurd (show k = 2 by omega) y, fun _ => rfl⟩
      · intro q hq
        refine RES.if (fun z => ?_) (fun z => RES.if (fun z' => ?_) (fun z' => ?_))
        · rw [k1] at z
          exact cbK fun w hw => hq _ ⟨fun _ => hw, fun y => by omega, fun y => by omega⟩
        · rw [k2] at z'
          exact lowK (j := 4) rfl (by omega) (by omega) fun c hc => hq _ ⟨fun y => by omega, fun _ => ⟨c, hc, rfl⟩, fun y => by omega⟩
        · rw [k1] at z
          rw [k2] at z'
          exact hq 0 ⟨fun y => absurd y z, fun y => absurd y z', fun _ => rfl⟩
    · intro q hq
      exact RES.if (fun _ => RES.if (fun _ => cbK fun _ _ => hq _ trivial) (fun _ => lowK (j := 14) rfl (by omega) (by omega) fun _ _ => hq _ trivial)) (fun _ => hq _ trivial)
  · intro q hq
    refine jnK (P := fun _ => True) (fun _ _ => lowK (j := 14) rfl (by omega) (by omega) fun _ _ => hq _ trivial) fun q' hq' => ?_
    refine RES.if (fun _ => hq' _ trivial) (fun hn => RES.if (fun _ => hq' _ trivial) (fun _ => ?_))
    have el : M 143 (nI s).toNatClampNeg = nI (RR s).length := by rw [nI_clamp (by omega)]; exact (hR s hs).1.1
    have h10 := (hR s hs).1.2.1
    rw [el] at hn
    have hl : 0 < (RR s).length := by
      rw [show (0 : Int32) = nI 0 from rfl, nI_leI (by omega) (by omega)] at hn
      omega
    refine lowK el hl (by omega) fun k hk => ?_
    have e10 : (10 : Int32) * nI s + nI k = nI (10 * s + k) := by
      rw [show (10 : Int32) = nI 10 from rfl, pk_mul, nI_add]
    rw [e10, inb_nI (by omega) (by omega), grd_true]
    exact hq _ trivial
end StpL
