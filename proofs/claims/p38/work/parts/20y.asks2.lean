/-- what a question does in the law, up to the call -/
def asK (fu : Nat) (v_2 v_4 x18_40 : Int32) (M_57 : Mem) : Option (Int32 × Mem) := bm (f_L_ask fu v_2 v_4 M_57) (fun r_59 M_60 => (if r_59 = (M_60 152 15) then f_L_asks_L572 fu x18_40 (fun (M_63 : Mem) => bm (f_L_taken fu (M_63 146 0) M_63) (fun r_65 M_66 => (if r_65 = (-7100) then bm (f_L_taken fu (-1) M_66) (fun r_69 M_70 => (if r_69 = (-7100) then some ((1 : Int32), M_70) else some ((0 : Int32), M_70))) else some ((0 : Int32), M_66)))) 4 0 M_60 else some ((0 : Int32), M_60)))
def asE (fu : Nat) (v_2 v_4 : Int32) (x18_40 : Int32) (M_41 : Mem) : Option (Int32 × Mem) := nm (M_41 152 0) (fun x20_42 => f_L_asks_L404 fu M_41 (fun (x19_44 : Int32) (x20_45 : Int32) => nm ((if (M_41 152 11) = 0 then (if x20_45 < x19_44 then (-1) else x20_45) else (-1)) : Int32) (fun v_48 => nm (up M_41 152 12 v_48) (fun M_49 => nm (up M_49 152 10 (M_49 146 0)) (fun M_50 => bm (f_L_match fu 149 150 154 M_50) (fun r_52 M_53 => nm (up M_53 152 15 r_52) (fun M_54 => nm ((if (M_54 146 5) = 1 then 3 else (M_54 146 3)) : Int32) (fun v_56 => nm (up M_54 152 16 v_56) (fun M_57 => asK fu v_2 v_4 x18_40 M_57)))))))) fu 0 x20_42 0)
def asMain (fu : Nat) (v_2 v_4 : Int32) (M_15 : Mem) : Option (Int32 × Mem) := nm (up M_15 152 4 (M_15 152 1)) (fun M_32 => nm (up M_32 152 5 v_2) (fun M_33 => nm (up M_33 152 6 v_4) (fun M_34 => f_L_asks_L181 fu (fun (M_36 : Mem) => f_L_asks_L203 fu (fun (M_38 : Mem) => f_L_asks_L229 fu (fun x18 M41 => asE fu v_2 v_4 x18 M41) 4 0 0 M_38) fu 0 M_36) fu 7 M_34)))
section Asks2L
variable {fu t u i j s o c p g a b fr dl nS nL nC nO l : Nat} {M m N n : Mem} {RR : Nat → List Row} {tk : Nat → Bool} {od : Nat → Nat}
theorem as181 {k200 : Mem → Option (Int32 × Mem)} : ∀ d x n (N : Mem), x + d = 12 → d < n → 7 ≤ x → (∀ a, a ≠ 152 → N a = M a) → (∀ j, N 152 j = if 7 ≤ j ∧ j < x then 0 else M 152 j) → ∃ N', f_L_asks_L181 fu k200 n (nI x) N = k200 N' ∧ (∀ a, a ≠ 152 → N' a = M a) ∧ ∀ j, N' 152 j = if 7 ≤ j ∧ j < 12 then 0 else M 152 j := by
  intro d
  induction d with
  | zero =>
    intro x n N h1 h2 h0 h3 h4
    obtain ⟨n, rfl⟩ := fu1 h2
    obtain rfl : x = 12 := by omega
    exact ⟨N, by simp (disch := omega) only [f_L_asks_L181, lit, nI_add, pk_mul, pk_sub, nI_clamp, inb_nI, nI_leI, nI_ltI, nI_eq, add_m1, ↓reduceIte, grd_true, nm_d, jn_d, bd_some, bm_some, om_some, om_none, Nat.le_refl], h3, h4⟩
  | succ d ih =>
    intro x n N h1 h2 h0 h3 h4
    obtain ⟨n, rfl⟩ := fu1 h2
    have h5 : ¬ 12 ≤ x := by omega
    simp (disch := omega) only [f_L_asks_L181, lit, nI_add, pk_mul, pk_sub, nI_clamp, inb_nI, nI_leI, nI_ltI, nI_eq, add_m1, ↓reduceIte, grd_true, nm_d, jn_d, bd_some, bm_some, om_some, om_none, h5]
    refine ih (x + 1) n _ (by omega) (by omega) (by omega) (fun a ha => by rw [up_n ha, h3 a ha]) (fun j => ?_)
    by_cases hj : j = x
    · subst hj; rw [up_s, if_pos (by omega)]; rfl
    · rw [up_m hj, h4]
      by_cases h7 : 7 ≤ j ∧ j < x
      · rw [if_pos h7, if_pos (by omega)]
      · rw [if_neg h7, if_neg (by omega)]
theorem as203 {k223 : Mem → Option (Int32 × Mem)} : ∀ d x n (N : Mem), x + d = 3 → d < n → (∀ a, a ≠ 151 → N a = M a) → (∀ j, j < x → N 151 (4 * j) = -1) → ∃ N', f_L_asks_L203 fu k223 n (nI x) N = k223 N' ∧ (∀ a, a ≠ 151 → N' a = M a) ∧ ∀ j, j < 3 → N' 151 (4 * j) = -1 := by
  intro d
  induction d with
  | zero =>
    intro x n N h1 h2 h3 h4
    obtain ⟨n, rfl⟩ := fu1 h2
    obtain rfl : x = 3 := by omega
    exact ⟨N, by simp (disch := omega) only [f_L_asks_L203, lit, nI_add, pk_mul, pk_sub, nI_clamp, inb_nI, nI_leI, nI_ltI, nI_eq, add_m1, ↓reduceIte, grd_true, nm_d, jn_d, bd_some, bm_some, om_some, om_none, Nat.le_refl], h3, h4⟩
  | succ d ih =>
    intro x n N h1 h2 h3 h4
    obtain ⟨n, rfl⟩ := fu1 h2
    have h5 : ¬ 3 ≤ x := by omega
    have e4 : (4 : Int32) * nI x = nI (4 * x) := pk_mul 4 x
    simp (disch := omega) only [f_L_asks_L203, e4, lit, nI_add, pk_mul, pk_sub, nI_clamp, inb_nI, nI_leI, nI_ltI, nI_eq, add_m1, ↓reduceIte, grd_true, nm_d, jn_d, bd_some, bm_some, om_some, om_none, h5]
    refine ih (x + 1) n _ (by omega) (by omega) (fun a ha => by rw [up_n ha, h3 a ha]) (fun j hj => ?_)
    by_cases hjx : j = x
    · subst hjx; rw [up_s]; rfl
    · rw [up_m (by omega)]; exact h4 j (by omega)
theorem ask_L (hfu : 5000 ≤ fu) (h : LR M m t u) (hd : ∀ nS nL nC nO, DG m nS nL nC nO → 0 < nS ∧ 0 < nO) (hfr : fr ≤ 200) (hdl : dl ≤ 200) (ht : t + 2000 < 2 ^ 26) :
    ∃ M57 n t' k nS od, asMain fu (nI fr) (nI dl) M = asK fu (nI fr) (nI dl) (nI (ordN od nS)) M57 ∧ f_X11_ask fu (nI fr) (nI dl) m = some (nI k, n) ∧ n 0 0 = 0 ∧ LR M57 n t' u ∧ (t ≤ t' ∧ t' ≤ t + 1500) ∧ M57 152 15 = nI k ∧ (∀ a, a < 142 → M57 a = M a) ∧ (nS ≤ 3 ∧ M57 146 0 = nI nS ∧ n 0 83 = nI nS) ∧ ∀ x, x < nS → od x < 3 ∧ n 57 x = 10 * nI (od x) + M57 151 (4 * od x) := by
  obtain ⟨RR, nS, nL, nC, nO, ⟨hT, hP, hG⟩, ⟨hD, hDG⟩, hR, ⟨hZ, hF, hAD⟩, h2, hLA, hST, he3⟩ := id h
  obtain ⟨hS0, hO⟩ := hd _ _ _ _ hDG
  have hS3 := hDG.1.2
  obtain ⟨_, _, _, _, _, _, _, _, _, _, _, h13⟩ := id hLA
  have hTt := hT.time
  have hu := hT.tl.gt
  -- the start of the reference
  let m0 := up (up (up (up (up (up (up (up (up m 0 0 0) 0 52 (nI t)) 0 53 (nI fr)) 0 54 (nI dl)) 0 78 0) 0 80 0) 0 81 0) 0 82 0) 0 83 0
  have o0 : ∀ a, a ≠ 0 → m0 a = m a := fun a ha => by
    show up (up (up (up (up (up (up (up (up m _ _ _) _ _ _) _ _ _) _ _ _) _ _ _) _ _ _) _ _ _) _ _ _) _ _ _ a = _
    simp (disch := omega) only [up_n]
  have o00 : ∀ j, j ≠ 0 → j ≠ 52 → j ≠ 53 → j ≠ 54 → j ≠ 78 → j ≠ 80 → j ≠ 81 → j ≠ 82 → j ≠ 83 → m0 0 j = m 0 j := fun j z0 z1 z2 z3 z4 z5 z6 z7 z8 => by
    show up (up (up (up (up (up (up (up (up m _ _ _) _ _ _) _ _ _) _ _ _) _ _ _) _ _ _) _ _ _) _ _ _) _ _ _ 0 j = _
    simp (disch := omega) only [up_m]
  have v0 : m0 0 0 = 0 ∧ m0 0 52 = nI t ∧ m0 0 53 = nI fr ∧ m0 0 54 = nI dl ∧ m0 0 78 = 0 ∧ m0 0 80 = 0 ∧ m0 0 81 = 0 ∧ m0 0 82 = 0 ∧ m0 0 83 = 0 := by
    show up (up (up (up (up (up (up (up (up m _ _ _) _ _ _) _ _ _) _ _ _) _ _ _) _ _ _) _ _ _) _ _ _) _ _ _ 0 0 = _ ∧ _
    refine ⟨?_, ?_, ?_, ?_, ?_, ?_, ?_, ?_, ?_⟩ <;> simp (disch := omega) only [m0, up_m, up_s]
  have hdr := hDG.dr.mp ⟨hS0, hO⟩
  have hdd : f_X11_isDrafted fu m = some 1 := by simp only [f_X11_isDrafted, hdr.1, hdr.2, if_false]
  have i1 : ¬ (nI fr < 0 ∨ (200 : Int32) < nI fr) := by
    rintro (z | z)
    · exact nI_pos (by omega) z
    · exact nI_nlt (a := 200) (by omega) (by omega) z
  have i2 : ¬ (nI dl < 0 ∨ (200 : Int32) < nI dl) := by
    rintro (z | z)
    · exact nI_pos (by omega) z
    · exact nI_nlt (a := 200) (by omega) (by omega) z
  let kF : Mem → Option (Int32 × Mem) := fun (M_16 : Mem) => bd (f_X11_makes fu 1 M_16) (fun M_18 => nm (up M_18 0 75 (M_18 0 68)) (fun M_19 => nm (up M_19 0 76 (M_19 0 69)) (fun M_20 => f_X11_ask_L159 fu (fun (M_22 : Mem) => bd (f_X11_claimed fu M_22) (fun r_24 => nm (up M_22 0 79 r_24) (fun M_25 => some ((M_25 0 75), M_25)))) fu 0 M_20)))
  have eX0 : f_X11_ask fu (nI fr) (nI dl) m = f_X11_ask_L96 fu (fun M_14 => f_X11_ask_L114 fu kF fu M_14) fu (nI 0) m0 := by
    have e8 : up m 0 0 0 0 8 = nI t := by rw [up_m (by omega)]; exact hTt.2
    simp only [f_X11_ask, in0, i1, i2, if_false, hdd, bd_some, jn_d, nm_d, i10, up_s, Int32.le_refl, if_true, e8]
    rfl
  obtain ⟨m1, d1, d2, d3⟩ := ask96 (fu := fu) (k := fun M_14 => f_X11_ask_L114 fu kF fu M_14) 3 0 fu m0 (by omega) (by omega) (fun j hj => by omega)
  -- the start of the law
  let M34 := up (up (up M 152 4 (nI t)) 152 5 (nI fr)) 152 6 (nI dl)
  have p0 : ∀ a, a ≠ 152 → M34 a = M a := fun a ha => by show up (up (up M _ _ _) _ _ _) _ _ _ a = _; rw [up_n ha, up_n ha, up_n ha]
  have p1 : ∀ j, j ≠ 4 → j ≠ 5 → j ≠ 6 → M34 152 j = M 152 j := fun j z1 z2 z3 => by show up (up (up M _ _ _) _ _ _) _ _ _ 152 j = _; rw [up_m z3, up_m z2, up_m z1]
  have pv : M34 152 4 = nI t ∧ M34 152 5 = nI fr ∧ M34 152 6 = nI dl := by
    refine ⟨?_, ?_, ?_⟩
    · show up (up (up M _ _ _) _ _ _) _ _ _ 152 4 = _; rw [up_m (by omega), up_m (by omega), up_s]
    · show up (up (up M _ _ _) _ _ _) _ _ _ 152 5 = _; rw [up_m (by omega), up_s]
    · show up (up (up M _ _ _) _ _ _) _ _ _ 152 6 = _; rw [up_s]
  obtain ⟨M36, a1, a2, a3⟩ := as181 (fu := fu) (M := M34) (k200 := fun (M_36 : Mem) => f_L_asks_L203 fu (fun (M_38 : Mem) => f_L_asks_L229 fu (fun x18 M41 => asE fu (nI fr) (nI dl) x18 M41) 4 0 0 M_38) fu 0 M_36) 5 7 fu M34 (by omega) (by omega) (Nat.le_refl _) (fun _ _ => rfl) (fun j => by rw [if_neg (by omega)])
  obtain ⟨M38, b1, b2, b3⟩ := as203 (fu := fu) (M := M36) (k223 := fun (M_38 : Mem) => f_L_asks_L229 fu (fun x18 M41 => asE fu (nI fr) (nI dl) x18 M41) 4 0 0 M_38) 3 0 fu M36 (by omega) (by omega) (fun _ _ => rfl) (fun j hj => by omega)
  have q0 : ∀ a, a ≠ 151 → a ≠ 152 → M38 a = M a := fun a z1 z2 => by rw [b2 a z1, a2 a z2, p0 a z2]
  have kq1 : ∀ j, j ≠ 4 → j ≠ 5 → j ≠ 6 → (j < 7 ∨ 12 ≤ j) → M38 152 j = M 152 j := fun j z1 z2 z3 z4 => by rw [b2 152 (by omega), a3, if_neg (by omega), p1 j z1 z2 z3]
  have qz : ∀ j, 7 ≤ j → j < 12 → M38 152 j = 0 := fun j z1 z2 => by rw [b2 152 (by omega), a3, if_pos ⟨z1, z2⟩]
  have qv : M38 152 4 = nI t ∧ M38 152 5 = nI fr ∧ M38 152 6 = nI dl := by
    refine ⟨?_, ?_, ?_⟩
    · rw [b2 152 (by omega), a3, if_neg (by omega)]; exact pv.1
    · rw [b2 152 (by omega), a3, if_neg (by omega)]; exact pv.2.1
    · rw [b2 152 (by omega), a3, if_neg (by omega)]; exact pv.2.2
  have r0 : ∀ a, a ≠ 0 → a ≠ 42 → m1 a = m a := fun a z1 z2 => by rw [d3 a z2, o0 a z1]
  have r00 : m1 0 = m0 0 := d3 0 (by omega)
  have r01 : ∀ j, j ≠ 0 → j ≠ 52 → j ≠ 53 → j ≠ 54 → j ≠ 78 → j ≠ 80 → j ≠ 81 → j ≠ 82 → j ≠ 83 → m1 0 j = m 0 j := fun j z0 z1 z2 z3 z4 z5 z6 z7 z8 => by rw [r00, o00 j z0 z1 z2 z3 z4 z5 z6 z7 z8]
  have hDS1 : DS m1 m := ⟨fun a _ _ => r0 a (by omega) (by omega), fun j _ _ => r01 j (by omega) (by omega) (by omega) (by omega) (by omega) (by omega) (by omega) (by omega) (by omega)⟩
  have hT1 : TN M38 m1 t u := hT.cg (q0 147 (by omega) (by omega)) (q0 148 (by omega) (by omega)) (q0 144 (by omega) (by omega)) ⟨kq1 0 (by omega) (by omega) (by omega) (by omega), kq1 1 (by omega) (by omega) (by omega) (by omega), kq1 3 (by omega) (by omega) (by omega) (by omega)⟩ (r01 7 (by omega) (by omega) (by omega) (by omega) (by omega) (by omega) (by omega) (by omega) (by omega)) (r01 8 (by omega) (by omega) (by omega) (by omega) (by omega) (by omega) (by omega) (by omega) (by omega)) (r01 39 (by omega) (by omega) (by omega) (by omega) (by omega) (by omega) (by omega) (by omega) (by omega)) (r0 5 (by omega) (by omega)) (fun a _ _ => r0 a (by omega) (by omega)) (r0 10 (by omega) (by omega))
  have hQ1 : QS M38 m1 := ⟨by rw [qv.1, r00, v0.2.1], by rw [qv.2.1, r00, v0.2.2.1], by rw [qv.2.2, r00, v0.2.2.2.1], by rw [qz 7 (by omega) (by omega), r00, v0.2.2.2.2.2.1], by rw [qz 8 (by omega) (by omega), r00, v0.2.2.2.2.2.2.1], by rw [qz 9 (by omega) (by omega), r00, v0.2.2.2.2.2.2.2.1], by rw [kq1 13 (by omega) (by omega) (by omega) (by omega), r01 55 (by omega) (by omega) (by omega) (by omega) (by omega) (by omega) (by omega) (by omega) (by omega)]; exact h13⟩
  have hAL1 : AL M38 m1 t u nS nL nC nO RR := ⟨⟨hT1, hP.cg (q0 145 (by omega) (by omega)) (fun a _ _ => r0 a (by omega) (by omega)), hG.cg (fun a _ => r0 a (by omega) (by omega)), hQ1⟩, ⟨hD.cg (q0 146 (by omega) (by omega)) (fun a _ _ => r0 a (by omega) (by omega)) (hDS1.2 37 (by omega) (by omega)) (hDS1.2 38 (by omega) (by omega)), hDG.cg hDS1⟩, hR.cg (q0 142 (by omega) (by omega)) (q0 143 (by omega) (by omega)) (r0 1 (by omega) (by omega)) (r0 2 (by omega) (by omega)) (r0 3 (by omega) (by omega)), hZ.cg (fun j _ => by rw [q0 153 (by omega) (by omega)]) (r0 18 (by omega) (by omega)), fun s hs => by rw [q0 153 (by omega) (by omega), r0 17 (by omega) (by omega)]; exact hF s hs⟩
  have hAQ1 : AQ M38 m1 t u nS nL nC nO RR (fun _ => false) 0 0 fr (fun _ => 0) := by
    refine ⟨hAL1, ⟨fun j hj => ?_, fun j hj => d2 j hj, by rw [r00]; exact v0.2.2.2.2.2.2.2.2, rfl⟩, fun j hj => (by cases hj), by rw [e3_cg (q0 3 (by omega) (by omega))]; exact he3, by rw [r00]; exact v0.2.2.1, ⟨by rw [r00]; exact v0.2.2.2.2.1, by omega, fun j _ _ => Nat.zero_testBit j⟩, qz 11 (by omega) (by omega), fun j _ hj => (by cases hj), fun j _ hj => (by cases hj), fun x hx => by omega, by rw [r00]; exact v0.1⟩
    rw [b3 j hj]
    exact propext ⟨fun _ => rfl, fun _ => by decide⟩
  obtain ⟨N, n2, t', tk, o, od, f1, f2, f3, f4, hAQ, f5, f6⟩ := askL (fu := fu) (k392 := fun x18 M41 => asE fu (nI fr) (nI dl) x18 M41) (k136 := kF) hfu nS 0 4 fu M38 m1 t (fun _ => false) 0 (fun _ => 0) (by omega) (by omega) (by omega) hAQ1 (by omega)
  obtain ⟨hAL, hTK, htS, he3N, hfrN, ⟨h78, ho8, hbit⟩, h11, hSL, hw, hod, h00⟩ := hAQ
  have htk : ∀ j, j < nS → tk j = true := cn3_full hTK.2.2.2 htS hS3
  -- the match
  obtain ⟨A, hA⟩ : ∃ A : Nat → List Row, ∀ j, j < nS → SL N n2 j (A j) := ⟨fun j => if h : j < nS then (hSL j (by omega) (htk j h)).choose else [], fun j hj => by
    simp only [hj, dif_pos]
    exact (hSL j (by omega) (htk j hj)).choose_spec⟩
  obtain ⟨hwa, hwb⟩ : (∀ j, j < nS → N 151 (4 * j + 2) = n2 46 j ∧ N 151 (4 * j + 3) = n2 47 j) ∧ True := ⟨fun j hj => by
    obtain ⟨h', a', b', _, _, _, _, w5, w6, w7, w8⟩ := hw j (by omega) (htk j hj)
    exact ⟨by rw [w5, w7], by rw [w6, w8]⟩, trivial⟩
  have hD2 := hAL.2.1.1
  have hG2 := hAL.2.1.2
  have hu2 : N 152 0 = nI u := hAL.1.1.tl.gt.1
  have hu3 : n2 0 7 = nI u := hAL.1.1.1.2.2
  obtain ⟨z1, z2, c1, c2⟩ := claim_L (fu := fu) (M := N) (n := n2) hD2.1.1 hS3 hwa nS 0 0 (nI u) (by omega)
  let v48 : Int32 := if nI o = 0 then (if z2 < z1 then -1 else z2) else -1
  let M50 := up (up N 152 12 v48) 152 10 (nI nS)
  have oM : ∀ a, a ≠ 152 → M50 a = N a := fun a ha => by show up (up N _ _ _) _ _ _ a = _; rw [up_n ha, up_n ha]
  have oM2 : ∀ j, j ≠ 10 → j ≠ 12 → M50 152 j = N 152 j := fun j z1 z2 => by show up (up N _ _ _) _ _ _ 152 j = _; rw [up_m z1, up_m z2]
  have hM12 : M50 152 12 = v48 := by show up (up N _ _ _) _ _ _ 152 12 = _; rw [up_m (by omega), up_s]
  have hD50 : DL M50 n2 nS nL nC nO := hD2.cg (oM 146 (by omega)) (fun _ _ _ => rfl) rfl rfl
  obtain ⟨P, q, k, e1, e2, hk20, e4, e5, e6, e7, e8, e9⟩ := match_L (fu := fu) (a1 := 149) (a2 := 150) (a3 := 154) (hh := true) (A := A) hfu hD50 hG2 hS0 hO (by omega) (fun i hi => ⟨fun _ => (hA i hi).2.1, fun h => by cases h⟩) (fun i hi => ⟨(hA i hi).1.cg2 (oM 150 (by omega)) (oM 149 (by omega)), (hA i hi).2.2⟩)
  let cols := if n2 0 38 = 0 then nO else 3
  have hO3 := hG2.2.2.2.1.2
  have hcols : cols ≤ 3 := by show (if n2 0 38 = 0 then nO else 3) ≤ 3; split <;> omega
  let M57 := up (up P 152 15 (nI k)) 152 16 (nI cols)
  have w0 : ∀ a, a ≠ 152 → a ≠ 154 → M57 a = N a := fun a z1 z2 => by show up (up P _ _ _) _ _ _ a = _; rw [up_n z1, up_n z1, e7 a z2, oM a z1]
  have w1 : ∀ j, j ≠ 10 → j ≠ 12 → j ≠ 15 → j ≠ 16 → M57 152 j = N 152 j := fun j z1 z2 z3 z4 => by show up (up P _ _ _) _ _ _ 152 j = _; rw [up_m z4, up_m z3, e7 152 (by omega), oM2 j z1 z2]
  have w12 : M57 152 12 = v48 := by show up (up P _ _ _) _ _ _ 152 12 = _; rw [up_m (by omega), up_m (by omega), e7 152 (by omega), hM12]
  have w15 : M57 152 15 = nI k := by show up (up P _ _ _) _ _ _ 152 15 = _; rw [up_m (by omega), up_s]
  have w16 : M57 152 16 = nI cols := up_s
  have w154 : M57 154 = P 154 := by show up (up P _ _ _) _ _ _ 154 = _; rw [up_n (by omega), up_n (by omega)]
  -- the reference's end
  let q1 := up (up q 0 75 (nI k)) 0 76 (nI cols)
  let q2 := row q1 56 (va_cpy (q1 52) (q1 56) 0 0 120)
  let nF := up q2 0 79 v48
  have x0 : ∀ a, a ≠ 0 → a ≠ 56 → nF a = q a := fun a z1 z2 => by show up (row (up (up q _ _ _) _ _ _) _ _) _ _ _ a = _; rw [up_n z1, row_n z2, up_n z1, up_n z1]
  have x1 : ∀ j, j ≠ 75 → j ≠ 76 → j ≠ 79 → nF 0 j = q 0 j := fun j z1 z2 z3 => by show up (row (up (up q _ _ _) _ _ _) _ _) _ _ _ 0 j = _; rw [up_m z3, row_n (by omega), up_m z2, up_m z1]
  have x2 : ∀ a, a ≠ 0 → (a < 49 ∨ 56 < a) → nF a = n2 a := fun a z1 z2 => by rw [x0 a z1 (by omega), e8 a z1 (by omega)]
  have x3 : ∀ j, j ≠ 68 → j ≠ 69 → j ≠ 71 → j ≠ 75 → j ≠ 76 → j ≠ 79 → nF 0 j = n2 0 j := fun j z1 z2 z3 z4 z5 z6 => by rw [x1 j z4 z5 z6, e9 j z1 z2 z3]
  have x75 : nF 0 75 = nI k := by show up (row (up (up q _ _ _) _ _ _) _ _) _ _ _ 0 75 = _; rw [up_m (by omega), row_n (by omega), up_m (by omega), up_s]
  have x76 : nF 0 76 = nI cols := by show up (row (up (up q _ _ _) _ _ _) _ _) _ _ _ 0 76 = _; rw [up_m (by omega), row_n (by omega), up_s]
  have x79 : nF 0 79 = v48 := up_s
  have x56 : ∀ y, y < 120 → nF 56 y = q 52 y := fun y hy => by
    show up (row (up (up q _ _ _) _ _ _) 56 (va_cpy (up (up q _ _ _) _ _ _ 52) _ 0 0 120)) _ _ _ 56 y = _
    rw [up_n (by omega), row_s, pk_cpy_in (by omega) (by omega), up_n (by omega), up_n (by omega)]
    congr 1
    omega
  have h78q : q2 0 78 = nI o := by show row (up (up q _ _ _) _ _ _) _ _ 0 78 = _; rw [row_n (by omega), up_m (by omega), up_m (by omega), e9 78 (by omega) (by omega) (by omega)]; exact h78
  have h7q : q2 0 7 = nI u := by show row (up (up q _ _ _) _ _ _) _ _ 0 7 = _; rw [row_n (by omega), up_m (by omega), up_m (by omega), e9 7 (by omega) (by omega) (by omega)]; exact hu3
  have h22q : q2 0 22 = nI nS := by show row (up (up q _ _ _) _ _ _) _ _ 0 22 = _; rw [row_n (by omega), up_m (by omega), up_m (by omega), e9 22 (by omega) (by omega) (by omega)]; exact hG2.1.1
  have hq2 : ∀ a, a ≠ 0 → a ≠ 56 → q2 a = q a := fun a z1 z2 => by show row (up (up q _ _ _) _ _ _) _ _ a = _; rw [row_n z2, up_n z1, up_n z1]
  have hcl : f_X11_claimed fu q2 = some v48 := by
    have := c2 q2 fu (fun (x1_3 : Int32) (x2_4 : Int32) => (if (q2 0 78) = 0 then (if x2_4 < x1_3 then some (-1) else some x2_4) else some (-1))) (by rw [hq2 46 (by omega) (by omega), e8 46 (by omega) (by omega)]) (by rw [hq2 47 (by omega) (by omega), e8 47 (by omega) (by omega)]) h22q (by omega)
    show f_X11_claimed_L9 fu q2 (fun (x1_3 : Int32) (x2_4 : Int32) => (if (q2 0 78) = 0 then (if x2_4 < x1_3 then some (-1) else some x2_4) else some (-1))) fu 0 (q2 0 7) 0 = _
    rw [h7q]
    refine Eq.trans this ?_
    rw [h78q]
    show (if nI o = 0 then (if z2 < z1 then some (-1) else some z2) else some (-1)) = some (if nI o = 0 then (if z2 < z1 then -1 else z2) else -1)
    split <;> (try split) <;> rfl
  have eXF : f_X11_ask fu (nI fr) (nI dl) m = some (nI k, nF) := by
    rw [eX0, d1]
    refine Eq.trans f2 ?_
    show bd (f_X11_makes fu (bI true) n2) _ = _
    rw [e2, bd_some]
    have := copy159 (fu := fu) (m := q1) (k := fun (M_22 : Mem) => bd (f_X11_claimed fu M_22) (fun r_24 => nm (up M_22 0 79 r_24) (fun M_25 => some ((M_25 0 75), M_25)))) 120 0 fu (by omega) (by omega)
    rw [cp_0, row_self] at this
    have hq1 : up (up q 0 75 (q 0 68)) 0 76 (up q 0 75 (q 0 68) 0 69) = q1 := by
      show _ = up (up q 0 75 (nI k)) 0 76 (nI cols)
      rw [up_m (by omega), e4, e5]
    simp only [nm_d, hq1]
    refine Eq.trans this ?_
    rw [show row q1 56 (va_cpy (q1 52) (q1 56) 0 0 120) = q2 from rfl, hcl, bd_some, nm_d]
    show some (nF 0 75, nF) = _
    rw [x75]
  have h5v : (if (up P 152 15 (nI k)) 146 5 = 1 then (3 : Int32) else (up P 152 15 (nI k)) 146 3) = nI cols := by
    rw [up_n (by omega), e7 146 (by omega), oM 146 (by omega), hD2.1.2.2.2.2.2.1, hD2.1.2.2.2.1]
    show _ = nI (if n2 0 38 = 0 then nO else 3)
    rcases hG2.2.2.2.2.2.1 with hz | hz
    · rw [hz, if_neg (by decide), if_pos rfl]
    · rw [hz, if_pos rfl, if_neg (by decide)]; rfl
  have eLF : asMain fu (nI fr) (nI dl) M = asK fu (nI fr) (nI dl) (nI (ordN od nS)) M57 := by
    have z0 : asMain fu (nI fr) (nI dl) M = f_L_asks_L181 fu (fun (M_36 : Mem) => f_L_asks_L203 fu (fun (M_38 : Mem) => f_L_asks_L229 fu (fun x18 M41 => asE fu (nI fr) (nI dl) x18 M41) 4 0 0 M_38) fu 0 M_36) fu (nI 7) M34 := by
      unfold asMain
      refine nm_to (w := up M 152 4 (nI t)) (by rw [hTt.1]) ?_
      rfl
    rw [z0, a1]
    refine Eq.trans b1 (Eq.trans f1 ?_)
    unfold asE
    rw [nm_d, hu2]
    refine Eq.trans (c1 fu _ (by omega)) ?_
    simp only [nm_d, h11]
    rw [show up N 152 12 (if nI o = 0 then (if z2 < z1 then -1 else z2) else -1) = up N 152 12 v48 from rfl, up_n (show 146 ≠ 152 by omega), hD2.1.1, show up (up N 152 12 v48) 152 10 (nI nS) = M50 from rfl, e1, bm_some, h5v]
  have y0 : ∀ a, a ≠ 145 → a ≠ 147 → a ≠ 148 → a ≠ 149 → a ≠ 150 → a ≠ 151 → a ≠ 152 → a ≠ 153 → a ≠ 154 → a ≠ 157 → M57 a = M a := fun a z1 z2 z3 z4 z5 z6 z7 z8 z9 z10 => by rw [w0 a z7 z9, f5.1 a z1 z2 z3 z4 z5 z6 z7 z8 z10, q0 a z6 z7]
  have y1 : ∀ a, (58 ≤ a ∧ a ≤ 63) ∨ a = 4 → nF a = m a := fun a ha => by rw [x2 a (by omega) (by omega), f6.1 a (by omega), r0 a (by omega) (by omega)]
  have y2 : ∀ j, j = 6 ∨ j = 85 → nF 0 j = m 0 j := fun j hj => by rw [x3 j (by omega) (by omega) (by omega) (by omega) (by omega) (by omega), f6.2 j (by omega) (by omega) (by omega) (by omega) (by omega) (by omega) (by omega) (by omega) (by omega) (by omega), r01 j (by omega) (by omega) (by omega) (by omega) (by omega) (by omega) (by omega) (by omega) (by omega)]
  have hDSF : DS nF n2 := ⟨fun a _ _ => x2 a (by omega) (by omega), fun j _ _ => x3 j (by omega) (by omega) (by omega) (by omega) (by omega) (by omega)⟩
  obtain ⟨⟨g1, g2, g3, g4⟩, ⟨_, _⟩, g5, g6, g7⟩ := hAL
  refine ⟨M57, nF, t', k, nS, od, eLF, eXF, by rw [x3 0 (by omega) (by omega) (by omega) (by omega) (by omega) (by omega)]; exact h00, ?_, ⟨f3, by omega⟩, w15, fun a ha => y0 a (by omega) (by omega) (by omega) (by omega) (by omega) (by omega) (by omega) (by omega) (by omega) (by omega), ⟨hS3, by rw [w0 146 (by omega) (by omega)]; exact hD2.1.1, by rw [x3 83 (by omega) (by omega) (by omega) (by omega) (by omega) (by omega)]; exact hTK.2.2.1⟩, fun x hx => ?_⟩
  · refine ⟨RR, nS, nL, nC, nO, ⟨g1.cg (w0 147 (by omega) (by omega)) (w0 148 (by omega) (by omega)) (w0 144 (by omega) (by omega)) ⟨w1 0 (by omega) (by omega) (by omega) (by omega), w1 1 (by omega) (by omega) (by omega) (by omega), w1 3 (by omega) (by omega) (by omega) (by omega)⟩ (x3 7 (by omega) (by omega) (by omega) (by omega) (by omega) (by omega)) (x3 8 (by omega) (by omega) (by omega) (by omega) (by omega) (by omega)) (x3 39 (by omega) (by omega) (by omega) (by omega) (by omega) (by omega)) (x2 5 (by omega) (by omega)) (fun a _ _ => x2 a (by omega) (by omega)) (x2 10 (by omega) (by omega)), g2.cg (w0 145 (by omega) (by omega)) (fun a _ _ => x2 a (by omega) (by omega)), g3.cg (fun a _ => x2 a (by omega) (by omega))⟩, ⟨hD2.cg (w0 146 (by omega) (by omega)) (fun a _ _ => x2 a (by omega) (by omega)) (hDSF.2 37 (by omega) (by omega)) (hDSF.2 38 (by omega) (by omega)), hG2.cg hDSF⟩, g5.cg (w0 142 (by omega) (by omega)) (w0 143 (by omega) (by omega)) (x2 1 (by omega) (by omega)) (x2 2 (by omega) (by omega)) (x2 3 (by omega) (by omega)), ⟨g6.cg (fun j _ => by rw [w0 153 (by omega) (by omega)]) (x2 18 (by omega) (by omega)), fun s hs => by rw [w0 153 (by omega) (by omega), x2 17 (by omega) (by omega)]; exact g7 s hs, fun s hs => by rw [w0 153 (by omega) (by omega), f5.2.2 _ (by omega), q0 153 (by omega) (by omega), y1 4 (by omega)]; exact hAD s hs⟩, ?_, ?_, ?_, ?_⟩
    · rw [w1 2 (by omega) (by omega) (by omega) (by omega), f5.2.1 2 (by omega) (by omega) (by omega) (by omega) (by omega) (by omega) (by omega) (by omega), kq1 2 (by omega) (by omega) (by omega) (by omega), y2 6 (by omega)]; exact h2
    · obtain ⟨s1, s2, s3, s4, s5, s6, s7⟩ := g4
      refine ⟨k, cols, hk20, hcols, ⟨w15, x75, w16, x76⟩, fun x c hx hc => ?_, ?_, by rw [w12, x79], ?_, ?_, ?_, ?_⟩
      · rw [w154, x56 _ (by omega)]; exact e6 x c hx hc
      · rw [w1 11 (by omega) (by omega) (by omega) (by omega), x3 78 (by omega) (by omega) (by omega) (by omega) (by omega) (by omega), h11, h78]
      · rw [w1 7 (by omega) (by omega) (by omega) (by omega), x3 80 (by omega) (by omega) (by omega) (by omega) (by omega) (by omega)]; exact s4
      · rw [w1 8 (by omega) (by omega) (by omega) (by omega), x3 81 (by omega) (by omega) (by omega) (by omega) (by omega) (by omega)]; exact s5
      · rw [w1 9 (by omega) (by omega) (by omega) (by omega), x3 82 (by omega) (by omega) (by omega) (by omega) (by omega) (by omega)]; exact s6
      · rw [w1 13 (by omega) (by omega) (by omega) (by omega), x3 55 (by omega) (by omega) (by omega) (by omega) (by omega) (by omega)]; exact s7
    · have e155 := y0 155 (by omega) (by omega) (by omega) (by omega) (by omega) (by omega) (by omega) (by omega) (by omega) (by omega)
      have e156 := y0 156 (by omega) (by omega) (by omega) (by omega) (by omega) (by omega) (by omega) (by omega) (by omega) (by omega)
      simp only [STL, e155, e156, y2 85 (by omega), y1 58 (by omega), y1 59 (by omega), y1 60 (by omega), y1 61 (by omega), y1 62 (by omega), y1 63 (by omega)]
      exact hST
    · rw [e3_cg (w0 3 (by omega) (by omega))]; exact he3N
  · obtain ⟨v1, v2, v3⟩ := hod x hx
    exact ⟨v1, by rw [x2 57 (by omega) (by omega), w0 151 (by omega) (by omega)]; exact v3⟩
end Asks2L
