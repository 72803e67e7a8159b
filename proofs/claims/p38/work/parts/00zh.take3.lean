/-! ===== a seat is taken: by its link ===== -/
section Take3
variable {fu nS nL nC nO i j s t u e p c fr t0 dl c0 sc o f g h w l : Nat} {M m N n : Mem} {RR : Nat → List Row} {A F : List Row} {tk : Nat → Bool} {sn un : Nat → Nat}
theorem bm_sw {X : Option (Int32 × Mem)} {K : Int32 → Mem → Option Mem} : bm (bm X (fun r M => if r = 0 then some ((2 + 0 : Int32), M) else some ((2 + 10 : Int32), M))) K = bm X (fun r M => K (nI 2 + if r = 0 then 0 else 10) M) := by
  cases X with
  | none => rfl
  | some q =>
    obtain ⟨q1, q2⟩ := q
    rw [bm_some, bm_some]
    by_cases hq : q1 = 0
    · have e : (2 + 0 : Int32) = nI 2 + 0 := by decide
      rw [if_pos hq, if_pos hq, bm_some, e]
    · have e : (2 + 10 : Int32) = nI 2 + 10 := by decide
      rw [if_neg hq, if_neg hq, bm_some, e]
/-- what a link tells: its end, the other end, their columns, the other seat -/
def LF (M m : Mem) (i l ce co cl ot oc : Nat) : Prop := enI m i (some l) = nI ce ∧ nI ce ^^^ nI 1 = nI co ∧ ce < 6 ∧ co < 6 ∧ M 82 co = nI ot ∧ M 83 ce = nI cl ∧ M 83 co = nI oc ∧ cl < 4 ∧ oc < 4 ∧ (if m 20 l = nI i then m 21 l else m 23 l) = nI cl ∧ (if m 20 l = nI i then m 22 l else m 20 l) = nI ot ∧ (if m 20 l = nI i then m 23 l else m 21 l) = nI oc
theorem linkFacts (hD : DR M m) (hG : DG m nS nL nC nO) (hi : i < 3) (h : fro (lkd m tk i) 0 nL = some l) : ∃ ce co cl ot oc, l < 3 ∧ ot < nS ∧ tk ot = true ∧ LF M m i l ce co cl ot oc := by
  have hl := fro_lt h
  have hb3 := hG.2.1.2
  obtain ⟨a, b, c, d, r1, r2, r3, r4, q1, q2, q3, q4, q5, q6, q7, q8, hA, hB, hlk⟩ := lkF (tk := tk) hG hD (show l < nL by omega) hi
  have x1 := (xor1 ⟨l, by omega⟩).1
  have x2 := (xor1 ⟨l, by omega⟩).2
  dsimp only at x1 x2
  have h2 := hl.2.2
  rw [hlk] at h2
  by_cases ha : a = i
  · have hbi : ¬ b = i := by omega
    simp only [ha, hbi, decide_true, decide_false, Bool.true_and, Bool.false_and, Bool.or_false] at h2
    refine ⟨2 * l, 2 * l + 1, c, b, d, by omega, q6, h2, ?_, x1, by omega, by omega, r2, r3, r4, q7, q8, ?_, ?_, ?_⟩
    · simp only [enI, q1, hA, ha, ↓reduceIte]
    · simp only [q1, hA, ha, ↓reduceIte, q3]
    · simp only [q1, hA, ha, ↓reduceIte, q2]
    · simp only [q1, hA, ha, ↓reduceIte, q4]
  · simp only [ha, decide_false, Bool.false_and, Bool.false_or] at h2
    have hbi : b = i := by
      simp only [Bool.and_eq_true, decide_eq_true_eq] at h2
      exact h2.1
    simp only [hbi, decide_true, Bool.true_and] at h2
    refine ⟨2 * l + 1, 2 * l, d, a, c, by omega, by omega, h2, ?_, x2, by omega, by omega, r1, r4, r3, q8, q7, ?_, ?_, ?_⟩
    · simp only [enI, q1, hA, ha, ↓reduceIte]
    · simp only [q1, hA, ha, ↓reduceIte, q4]
    · simp only [q1, hA, ha, ↓reduceIte]
    · simp only [q1, hA, ha, ↓reduceIte, q3]
theorem mayBind_eq {ce co cl ot oc so : Nat} {b : Bool} (hD : DR M m) (hs6 : s < 6) (hso6 : so < 6) (hot : ot < 3) (hL : LF M m i l ce co cl ot oc) (hso : m 19 ot = nI so) (hb : M 54 (3 * so + s / 2) = bI b) : f_X1_mayBind fu (nI s) (nI ce) M = some (if f_X10_canDo (nI (s / 2)) (nI cl) (nI 0) = nI 0 then nI 0 else if b = false then nI 1 else nI 0) := by
  obtain ⟨l1, l2, l3, l4, l5, l6, l7, l8, l9, _⟩ := hL
  have hsrc : M 81 ot = nI so := by rw [hD.2.1.1]; exact hso
  have hst : f_X10_storeOf (nI s) = nI (s / 2) := sto hs6
  have hs2 : s / 2 < 3 := by omega
  have e18 : nI so * nI 3 + nI (s / 2) = nI (3 * so + s / 2) := by rw [pk_mul, nI_add, Nat.mul_comm]
  simp (disch := omega) only [f_X1_mayBind, lit, nm_d, hst, l2, inb_nI, grd_true, nI_clamp, l5, hsrc, l6, e18, hb, bI_0]
  split
  · rfl
  · split <;> rfl
theorem canBind_eq {ce co cl ot oc so : Nat} {b : Bool} (hi : i < 3) (hl : l < 3) (hs : m 19 i = nI s) (hs6 : s < 6) (hso6 : so < 6) (hot : ot < 3) (hL : LF M m i l ce co cl ot oc) (hso : m 19 ot = nI so) (hb : ((m 17 so >>> (nI (s / 2) &&& nI 31)) &&& nI 1 = nI 1) ↔ b = true) : f_X11_canBind fu (nI i) (nI l) m = (if f_X10_canDo (nI (s / 2)) (nI cl) (nI 0) = nI 0 then some (0, m) else if b = false then bd (f_X11_laysKeys fu (nI ot) (nI oc) m) (fun M_18 => grd (inb (nI (s / 2)) 3) (bd (f_X11_guess fu (nI i) M_18) (fun r_21 => (if ((M_18 15 (s / 2)) + (r_21 * (M_18 16 (s / 2)))) ≤ (((((M_18 0 63) + 3) / 4) * (M_18 15 (s / 2))) + ((M_18 0 63) * (M_18 16 (s / 2)))) then some (0, M_18) else some (1, M_18))))) else some (0, m)) := by
  obtain ⟨_, _, _, _, _, _, _, _, _, l10, l11, l12⟩ := hL
  have hst : f_X10_storeOf (nI s) = nI (s / 2) := sto hs6
  have c1 : (nI i).toNatClampNeg = i := nI_clamp (by omega)
  have c2 : (nI l).toNatClampNeg = l := nI_clamp (by omega)
  have c3 : (nI ot).toNatClampNeg = ot := nI_clamp (by omega)
  have c4 : (nI (s / 2)).toNatClampNeg = s / 2 := nI_clamp (by omega)
  have sel : ∀ x y : Int32, (if (if m 20 l = nI i then (1 : Int32) else 0) = 0 then x else y) = if m 20 l = nI i then y else x := fun x y => by
    by_cases h : m 20 l = nI i
    · simp only [h, ↓reduceIte]; rfl
    · simp only [h, ↓reduceIte]
  unfold f_X11_canBind
  refine grd_to (inb_nI hl (by omega)) ?_
  refine nm_to (w := if m 20 l = nI i then 1 else 0) (by rw [c2]) ?_
  refine nm_to (w := nI cl) (by rw [c2, sel, l10]) ?_
  refine nm_to (w := nI ot) (by rw [c2, sel, l11]) ?_
  refine grd_to (inb_nI hi (by omega)) ?_
  refine nm_to (w := nI (s / 2)) (by rw [c1, hs, st_store, hst]) ?_
  rw [st_can]
  have e00 : (0 : Int32) = nI 0 := rfl
  by_cases hcd : f_X10_canDo (nI (s / 2)) (nI cl) (nI 0) = nI 0
  · rw [if_pos hcd]
    exact if_pos hcd
  · rw [if_neg hcd]
    have hcd' : ¬ f_X10_canDo (nI (s / 2)) (nI cl) 0 = 0 := hcd
    rw [if_neg hcd']
    refine grd_to (inb_nI hot (by omega)) ?_
    have hf : f_X11_isForbidden fu (m 19 (nI ot).toNatClampNeg) (nI (s / 2)) m = some (bI b) := by
      rw [c3, hso]
      simp (disch := omega) only [f_X11_isForbidden, lit, inb_nI, grd_true, nI_clamp]
      cases b with
      | true => rw [if_pos (hb.mpr rfl)]; rfl
      | false => rw [if_neg (fun h => by have := hb.mp h; cases this)]; rfl
    rw [hf, bd_some]
    cases b with
    | true => rw [if_neg (by decide), if_neg (by decide)]
    | false =>
      rw [if_pos (show bI false = 0 from rfl), if_pos rfl]
      refine nm_to (w := nI oc) (by rw [c2, sel, l12]) ?_
      rw [c4]
/-- the base, as keys are laid -/
theorem AB.keys (h : AB M m t u nS nL nC nO RR t0 dl c0 sc) (fC : ∀ a, a ≠ 120 → a ≠ 121 → N a = M a) (fC0 : ∀ j, j ≠ 6 → N 120 j = M 120 j) (fM : ∀ a, a ≠ 0 → a ≠ 48 → n a = m a) (fM0 : ∀ j, j ≠ 63 → n 0 j = m 0 j) (hk : N 121 = n 48) : AB N n t u nS nL nC nO RR t0 dl c0 sc := by
  obtain ⟨h1, h2, h3, h4, h5, h6, h7, h8⟩ := h
  have hD : DS n m := ⟨fun a z1 z2 => fM a (by omega) (by omega), fun j z1 z2 => fM0 j (by omega)⟩
  refine ⟨h1.of (h1.1.cg (fun a z1 z2 z3 => fC a (by omega) (by omega)) (fM0 7 (by omega)) (fM0 8 (by omega)) (fM0 39 (by omega)) (fun a z1 z2 => fM a (by omega) (by omega)) (fun a z1 z2 => fM a (by omega) (by omega))) (fun a z1 z2 z3 => fC a (by omega) (by omega)) (fun a z1 z2 => fM a (by omega) (by omega)) (fM0 6 (by omega)), h2.cg (fun a z1 z2 => fC a (by omega) (by omega)) hD, h3.cg hD, h4.cg (fC 59 (by omega) (by omega)) (fM 18 (by omega) (by omega)), h5.cg (fC 54 (by omega) (by omega)) (fM 17 (by omega) (by omega)), hk, ?_, h8⟩
  obtain ⟨q1, q2, q3, q4, q5, q6, q7, q8⟩ := h7
  exact ⟨by rw [fC0 8 (by omega)]; exact q1, by rw [fM0 52 (by omega)]; exact q2, by rw [fM0 54 (by omega)]; exact q3, by rw [fC 90 (by omega) (by omega)]; exact q4, by rw [fM0 80 (by omega)]; exact q5, by rw [fM0 55 (by omega)]; exact q6, by rw [fC 90 (by omega) (by omega), fM0 81 (by omega)]; exact q7, by rw [fC 90 (by omega) (by omega), fM0 82 (by omega)]; exact q8⟩
/-- a seat that no entry serves, behind the narrowing -/
theorem noEntry (hfu : 5000 ≤ fu) (hAB : AB N n t u nS nL nC nO RR t0 dl c0 0) (hX : SX N n nS nC fr tk p o i u sn un) (hi : i < nS) (hit : tk i = false) (hs : n 19 i = nI s) (hs6 : s < 6) (hw : n 5 s = nI w) (hwu : w ≤ u) (ht : t + 480 < 2 ^ 29) (hl : t0 + dl < 2 ^ 29) (hc : c0 + 200 < 2 ^ 29) (h7 : N 90 7 = nI o) (h9 : N 120 9 = nI (max (mx3 tk sn) w)) (h10 : N 120 10 = nI (mn3 tk un u)) (hA0 : RC N (96 + 3 * i) []) : ∃ N' n' t' sc' o' sn' un', bd (f_X1_endOf fu (nI i) N) (fun r_17 => (if r_17 = (-1) then ck164 fu (nI i) 3 N else bd (f_X1_mayBind fu (nI s) r_17 N) (fun r_30 => (if r_30 = 0 then ck164 fu (nI i) 3 N else bd (f_X1_scanCost fu (nI i) N) (fun r_33 => bd (f_X1_gatherKeys fu (r_17 ^^^ 1) N) (fun M_35 => bd (f_X1_bindCost fu (f_X10_storeOf (nI s)) M_35) (fun r_37 => (if r_33 ≤ r_37 then ck164 fu (nI i) 3 M_35 else grd (inb r_17 6) (bm (f_X1_bind fu (nI i) (M_35 83 r_17.toNatClampNeg) ((M_35 90 9) + r_33) M_35) (fun r_41 M_42 => ck164 fu (nI i) r_41 M_42)))))))))) = some N' ∧ bd (f_X11_linkOf fu (nI i) n) (fun r_5 => (if r_5 = (-1) then mk83 fu (nI i) n else bm (f_X11_canBind fu (nI i) r_5 n) (fun r_35 M_36 => (if r_35 = 0 then mk83 fu (nI i) M_36 else grd (inb r_5 3) (nm ((if (M_36 20 r_5.toNatClampNeg) = (nI i) then (M_36 21 r_5.toNatClampNeg) else (M_36 23 r_5.toNatClampNeg)) : Int32) (fun v_40 => bm (f_X11_binds fu (nI i) v_40 M_36) (fun r_42 M_43 => mk101 (nI i) r_42 M_43))))))) = some n' ∧ t ≤ t' ∧ t' ≤ t + 480 ∧ sc' ≤ 156 ∧ SA N' n' t' u nS nL nC nO RR t0 dl fr c0 sc' (setB tk i) (p + 1) o' sn' un' := by
  have hi3 : i < 3 := by have := hAB.2.2.1.1.2; omega
  have hS3 := hAB.2.2.1.1.2
  have hb3 := hAB.2.2.1.2.1.2
  have hfl : ∀ l, fro (lkd n tk i) 0 nL = some l → l < 3 := fun l hl => by have := fro_lt hl; omega
  have ob0 : nI o = nI (ob o i false) := rfl
  -- a scan, from any such state
  have scan3 : ∀ (N n : Mem), AB N n t u nS nL nC nO RR t0 dl c0 0 → SX N n nS nC fr tk p o i u sn un → n 19 i = nI s → n 5 s = nI w → N 90 7 = nI o → N 120 9 = nI (max (mx3 tk sn) w) → N 120 10 = nI (mn3 tk un u) → ∃ N' n' t' sc' o' sn' un', ck164 fu (nI i) 3 N = some N' ∧ mk83 fu (nI i) n = some n' ∧ t ≤ t' ∧ t' ≤ t + 480 ∧ sc' ≤ 156 ∧ SA N' n' t' u nS nL nC nO RR t0 dl fr c0 sc' (setB tk i) (p + 1) o' sn' un' := by
    intro N n k1 k2 k3 k4 k5 k6 k7
    obtain ⟨N', n', t', sc', o', sn', un', g1, g2, g3, g4, g5, g6⟩ := scanClose (h := 3) (b0 := false) hfu k1 k2 hi hit k3 hs6 k4 hwu (by omega) hl (by omega) k5 k6 k7 (by omega)
    refine ⟨N', n', t', sc', o', sn', un', ?_, ?_, g3, by omega, by omega, g6⟩
    · have h31 : ¬ (3 : Int32) = 1 := by decide
      simp only [ck164, h31, ↓reduceIte]
      exact g1
    · simp only [mk83, nm_d]
      exact g2
  rw [endOf_eq hfu hAB.2.1 hAB.2.2.1 hX.1 hi3, bd_some, linkOf_eq hfu hAB.2.2.1 hX.1 hi3, bd_some]
  have c1 : (enI n i (fro (lkd n tk i) 0 nL) = -1) = (fro (lkd n tk i) 0 nL = none) := enI_n1 hfl
  have c2 : (oI (fro (lkd n tk i) 0 nL) = -1) = (fro (lkd n tk i) 0 nL = none) := propext (oI_none (fun l hl => by have := hfl l hl; omega))
  simp only [c1, c2]
  cases hfr : fro (lkd n tk i) 0 nL with
  | none =>
    simp only [↓reduceIte]
    exact scan3 N n hAB hX hs hw h7 h9 h10
  | some l =>
    simp only [reduceCtorEq, ↓reduceIte]
    obtain ⟨ce, co, cl, ot, oc, hl3, hot, htk, hLF⟩ := linkFacts hAB.2.1 hAB.2.2.1 hi3 hfr
    obtain ⟨so, hso6, hso⟩ := hAB.2.2.1.src hot
    have hot3 : ot < 3 := by omega
    have hoti : ot ≠ i := fun e => by rw [e, hit] at htk; cases htk
    obtain ⟨b, hb1, hb2⟩ := hAB.2.2.2.2.1 so (s / 2) hso6 (by omega)
    have hce : ce < 6 := hLF.2.2.1
    have l1 : enI n i (some l) = nI ce := hLF.1
    have l2 : nI ce ^^^ 1 = nI co := hLF.2.1
    have ol : oI (some l) = nI l := rfl
    rw [l1, mayBind_eq hAB.2.1 hs6 hso6 hot3 hLF hso hb1, bd_some, ol, canBind_eq hi3 hl3 hs hs6 hso6 hot3 hLF hso hb2]
    by_cases hcd : f_X10_canDo (nI (s / 2)) (nI cl) (nI 0) = nI 0
    · rw [if_pos hcd, if_pos hcd, bm_some, if_pos (show nI 0 = (0 : Int32) from rfl), if_pos rfl]
      exact scan3 N n hAB hX hs hw h7 h9 h10
    · rw [if_neg hcd, if_neg hcd]
      cases b with
      | true =>
        rw [if_neg (show ¬ true = false by decide), if_neg (show ¬ true = false by decide), bm_some, if_pos (show nI 0 = (0 : Int32) from rfl), if_pos rfl]
        exact scan3 N n hAB hX hs hw h7 h9 h10
      | false =>
        have i10 : ¬ nI 1 = (0 : Int32) := by decide
        rw [if_pos rfl, if_pos rfl, if_neg i10]
        -- the keys
        obtain ⟨Ao, ao1, ao2, ao3⟩ := hX.2.2.2.2.2.2.1 ot hot3 hoti htk
        obtain ⟨M35, k1, k2, k3, k4, k5⟩ := gather_eq (fu := fu) (e := co) hfu hot3 hLF.2.2.2.1 hLF.2.2.2.2.2.2.2.2.1 ao3 hLF.2.2.2.2.1 hLF.2.2.2.2.2.2.1
        obtain ⟨m18, v1, v2, v3, v4, v5⟩ := mlays_eq (fu := fu) hfu hot3 hLF.2.2.2.2.2.2.2.2.1 ao2 hAB.2.2.1 ao1
        rw [hAB.2.2.2.2.2.1] at k2 k3
        have hFl := (ao3.2.1)
        obtain ⟨hKD, hKle⟩ := fold_KD (c := oc) (Ao.filter (fun r => al (hA n ot r) nC)) (n 48, 0) (fun x y _ hy => by simp at hy)
        generalize hst : (Ao.filter (fun r => al (hA n ot r) nC)).foldl (kst oc) (n 48, 0) = st at k2 k3 v2 v3 hKD hKle
        obtain ⟨kf, K⟩ := st
        dsimp only at k2 k3 v2 v3 hKle
        have hK12 : K ≤ 12 := by omega
        have hAB' : AB M35 m18 t u nS nL nC nO RR t0 dl c0 0 := hAB.keys k4 k5 v4 v5 (by rw [k2, v2])
        have hDS : DS m18 n := ⟨fun a z1 z2 => v4 a (by omega) (by omega), fun j z1 z2 => v5 j (by omega)⟩
        have hX' : SX M35 m18 nS nC fr tk p o i u sn un := hX.cg (k4 93 (by omega) (by omega)) (k4 94 (by omega) (by omega)) (fun j hj _ R hR => hR.cg (by rw [k4 _ (by omega) (by omega)]) (k4 _ (by omega) (by omega)) (k4 _ (by omega) (by omega))) (by rw [k4 90 (by omega) (by omega)]) (k5 7 (by omega)) (v4 42 (by omega) (by omega)) hit (fun j _ => by rw [v4 46 (by omega) (by omega)]) (fun j _ => by rw [v4 47 (by omega) (by omega)]) (v4 57 (by omega) (by omega)) (v5 83 (by omega)) (v5 53 (by omega)) (v5 78 (by omega)) (fun i' A' z1 z2 z3 => z3.cg (by rw [v4 43 (by omega) (by omega)]) (v4 44 (by omega) (by omega)) (v4 45 (by omega) (by omega))) hDS ⟨fun a z1 z2 => k4 a (by omega) (by omega), fun a z1 z2 => v4 a (by omega) (by omega), v5 85 (by omega), v5 0 (by omega)⟩
        have hs' : m18 19 i = nI s := by rw [v4 19 (by omega) (by omega)]; exact hs
        have hw' : m18 5 s = nI w := by rw [v4 5 (by omega) (by omega)]; exact hw
        have h7' : M35 90 7 = nI o := by rw [k4 90 (by omega) (by omega)]; exact h7
        have h9' : M35 120 9 = nI (max (mx3 tk sn) w) := by rw [k5 9 (by omega)]; exact h9
        have h10' : M35 120 10 = nI (mn3 tk un u) := by rw [k5 10 (by omega)]; exact h10
        -- the costs
        obtain ⟨fe, fe1, fe2⟩ := fee_b (k := s / 2)
        obtain ⟨frr, fr1, fr2⟩ := freight_b (k := s / 2)
        obtain ⟨z, z1, z2⟩ := hAB.2.2.2.1.2 s hs6
        have hzb : z < 2 ^ 20 := by omega
        have hgc := guessOf_eq (fu := fu) hfu hAB.2.1 hAB.2.2.1 hi3 hs hs6 hAB.2.2.2.1.1 z2 hzb
        have hgm := guess_eq (fu := fu) hfu hAB'.2.2.1 hi3 hs' hs6 (by rw [v4 18 (by omega) (by omega)]; exact z2) hzb
        have hgss : gss m18 i nC z = gss n i nC z := by simp only [gss, hDS.cs]
        rw [hgss] at hgm
        have hgb : gss n i nC z ≤ 12 := by
          have hle : z / 2 ^ ct (snt n i) nC ≤ z := Nat.div_le_self _ _
          simp only [gss]
          omega
        have hst' : f_X10_storeOf (nI s) = nI (s / 2) := sto hs6
        have hs2 : s / 2 < 3 := by omega
        have hmul : gss n i nC z * frr ≤ 12 * 2 := Nat.mul_le_mul hgb fr1
        have hmulK : K * frr ≤ 12 * 2 := Nat.mul_le_mul hK12 fr1
        have hmulF : (K + 3) / 4 * fe ≤ 3 * 5 := Nat.mul_le_mul (by omega) fe1
        have hsrcN : N 81 i = nI s := by rw [hAB.2.1.2.1.1]; exact hs
        have eSC : f_X1_scanCost fu (nI i) N = some (nI (fe + gss n i nC z * frr)) := by
          simp (disch := omega) only [f_X1_scanCost, inb_nI, grd_true, nI_clamp, nm_d, hsrcN, hst', hgc, bd_some, fe2, fr2, pk_mul, nI_add]
        have eBC : f_X1_bindCost fu (f_X10_storeOf (nI s)) M35 = some (nI ((K + 3) / 4 * fe + K * frr)) := by
          rw [hst']
          simp (disch := omega) only [f_X1_bindCost, lit, inb_nI, grd_true, nI_clamp, nm_d, k3, nI_add, pk_sub, pk_div, fe2, fr2, pk_mul]
          rw [show K + 4 - 1 = K + 3 by omega]
        have e15 : m18 15 (s / 2) = nI fe := by rw [hAB'.1.1.2.2.1.2.2.2.1]; exact fe2
        have e16 : m18 16 (s / 2) = nI frr := by rw [hAB'.1.1.2.2.1.2.2.2.2]; exact fr2
        have cmp : (nI (fe + gss n i nC z * frr) ≤ nI ((K + 3) / 4 * fe + K * frr)) = (fe + gss n i nC z * frr ≤ (K + 3) / 4 * fe + K * frr) := propext (nI_leI (by omega) (by omega))
        have eM1 : (m18 15 (s / 2) + nI (gss n i nC z) * m18 16 (s / 2) : Int32) = nI (fe + gss n i nC z * frr) := by rw [e15, e16, pk_mul, nI_add]
        have eM2 : ((m18 0 63 + 3) / 4 * m18 15 (s / 2) + m18 0 63 * m18 16 (s / 2) : Int32) = nI ((K + 3) / 4 * fe + K * frr) := by
          rw [e15, e16, v3, lit, nI_add, lit, pk_div (by omega) (by omega) (by omega), pk_mul, pk_mul, nI_add]
        rw [eSC, bd_some, l2, k1, bd_some, eBC, bd_some, v1, bd_some, inb_nI hs2 (by omega), grd_true, hgm, bd_some, eM1, eM2]
        simp only [cmp]
        by_cases hle : fe + gss n i nC z * frr ≤ (K + 3) / 4 * fe + K * frr
        · rw [if_pos hle, if_pos hle, bm_some, if_pos rfl]
          exact scan3 M35 m18 hAB' hX' hs' hw' h7' h9' h10'
        · rw [if_neg hle, if_neg hle, bm_some, if_neg (by decide), inb_nI hce (by omega), grd_true]
          have hcc : (nI ce).toNatClampNeg = ce := nI_clamp (by omega)
          have hcl : (nI l).toNatClampNeg = l := nI_clamp (by omega)
          have e83 : M35 83 ce = nI cl := by rw [k4 83 (by omega) (by omega)]; exact hLF.2.2.2.2.2.1
          have e90 : M35 90 9 = nI c0 := hAB'.2.2.2.2.2.2.1.2.2.2.1
          have ecl : (if m18 20 l = nI i then m18 21 l else m18 23 l) = nI cl := by
            rw [v4 20 (by omega) (by omega), v4 21 (by omega) (by omega), v4 23 (by omega) (by omega)]
            exact hLF.2.2.2.2.2.2.2.2.2.1
          rw [hcc, hcl, e83, e90, nI_add, inb_nI hl3 (by omega), grd_true, nm_d, ecl]
          have hcl4 : cl < 4 := hLF.2.2.2.2.2.2.2.1
          -- the bind
          have hbit := hX'.2.2.2.2.1.2.2 i hi3 hit
          have ho8 := hX'.2.2.2.2.1.2.1
          have hRC0 : RC M35 (96 + 3 * i) [] := hA0.cg (by rw [k4 _ (by omega) (by omega)]) (k4 _ (by omega) (by omega)) (k4 _ (by omega) (by omega))
          have hRS0 : RS (up m18 43 i 0) i [] := ⟨by rw [up_s]; rfl, by simp, fun k r hr => by simp at hr⟩
          have hAB43 : AB M35 (up m18 43 i 0) t u nS nL nC nO RR t0 dl c0 0 := hAB'.cg (fun _ _ => rfl) (fun a h1 h2 => up_n (by omega)) rfl ⟨rfl, rfl, rfl⟩ (fun j _ => by rw [up_n (by omega)])
          have hX43 : SX M35 (up m18 43 i 0) nS nC fr tk p o i u sn un := hX'.cg rfl rfl (fun _ _ _ _ h => h) rfl rfl (up_n (by omega)) hit (fun j _ => by rw [up_n (by omega)]) (fun j _ => by rw [up_n (by omega)]) (up_n (by omega)) (by rw [up_n (by omega)]) (by rw [up_n (by omega)]) (by rw [up_n (by omega)]) (fun i' A' y1 y2 y3 => y3.cg (by rw [up_m y2]) (up_n (by omega)) (up_n (by omega))) ⟨fun a h1 h2 => up_n (by omega), fun j h1 h2 => by rw [up_n (by omega)]⟩ ⟨fun _ _ _ => rfl, fun a _ _ => up_n (by omega), by rw [up_n (by omega)], by rw [up_n (by omega)]⟩
          have eBC' : f_X1_bind fu (nI i) (nI cl) (nI (c0 + (fe + gss n i nC z * frr))) M35 = f_X1_bind_L17 fu (nI i) (nI cl) (nI (c0 + (fe + gss n i nC z * frr))) (nI (s / 2)) fu (nI 0) M35 := by
            have hsrc35 : M35 81 i = nI s := by rw [hAB'.2.1.2.1.1]; exact hs'
            simp (disch := omega) only [f_X1_bind, inb_nI, grd_true, nI_clamp, nm_d, hsrc35, hst']
            rfl
          have eBM' : f_X11_binds fu (nI i) (nI cl) m18 = f_X11_binds_L44 fu (nI i) (nI cl) (nI (s / 2)) (nI (fe + gss n i nC z * frr)) mk158 fu (bI false) (nI 0) (up m18 43 i 0) := by
            unfold f_X11_binds
            refine grd_to (inb_nI hi3 (by omega)) ?_
            refine nm_to (w := nI (s / 2)) (by rw [nI_clamp (by omega), hs', st_store, hst']) ?_
            refine grd_to (inb_nI hs2 (by omega)) ?_
            rw [hgm, bd_some]
            refine nm_to (w := nI (fe + gss n i nC z * frr)) (by rw [nI_clamp (by omega), eM1]) ?_
            refine nm_to (w := up m18 43 i 0) (by rw [nI_clamp (by omega)]) ?_
            rfl
          obtain ⟨N2, n2, A2, opn, t2, sc2, y1, y2, y3, y4, y5, y6, y7, y8, y9, y10, y11⟩ := bindL (fu := fu) (c := cl) (s := s) (K := K) (x4 := fe + gss n i nC z * frr) (kf := kf) (o := o) hfu hi hi3 hcl4 hs6 hK12 hKD ho8 hbit hl (by omega) 3 0 fu fu M35 (up m18 43 i 0) [] t 0 false (by omega) (by omega) (by omega) hAB43 hRC0 hRS0 (fun r hr => by simp at hr) (by simp) h7' k3 (by rw [up_n (by omega)]; exact v3) (by rw [up_n (by omega)]; exact v2) (by rw [up_n (by omega)]; exact hs') (by omega) (by omega) (by omega)
          have hX2 := hX43.fs hi3 hit y8 y9 y10
          have hs2' : n2 19 i = nI s := by rw [y9.1 19 (by omega), up_n (by omega)]; exact hs'
          have hw2' : n2 5 s = nI w := by rw [y9.1 5 (by omega), up_n (by omega)]; exact hw'
          have p120 : ∀ j, N2 120 j = M35 120 j := fun j => by rw [y8.1 120 (by omega) (by omega) (by omega) (by omega) (by omega)]
          rw [eBC', eBM']
          rcases y11 with ⟨w1, w2⟩ | ⟨w1, w2⟩
          · rw [w1, w2, bm_some, bm_some]
            obtain ⟨N', n', x1, x2, x3⟩ := closeNow (h := 1) (opn := opn) hfu y3 hX2 hi hit hs2' hs6 hw2' hwu y4 y5 y6 y7 (by rw [p120]; exact h9') (by rw [p120]; exact h10') (by omega)
            refine ⟨N', n', t2, sc2, _, _, _, ?_, ?_, y1.1, by omega, by omega, x3⟩
            · simp only [ck164, ↓reduceIte]
              rw [show (1 : Int32) = nI 1 from rfl, x1, bd_some]
            · have e : (if opn = true then (11 : Int32) else 1) = nI (1 + if opn = true then 10 else 0) := by cases opn <;> decide
              rw [e]
              exact x2
          · rw [w1, w2, bm_some]
            obtain ⟨N', n', t', sc', o', sn', un', x1, x2, x3, x4, x5, x6⟩ := scanClose (h := 2) (b0 := opn) hfu y3 hX2 hi hit hs2' hs6 hw2' hwu (by omega) hl (by omega) y7 (by rw [p120]; exact h9') (by rw [p120]; exact h10') (by omega)
            refine ⟨N', n', t', sc', o', sn', un', ?_, ?_, by omega, by omega, by omega, x6⟩
            · have h21 : ¬ (2 : Int32) = 1 := by decide
              simp only [ck164, h21, ↓reduceIte]
              exact x1
            · exact (bm_sw (K := fun r_42 M_43 => mk101 (nI i) r_42 M_43)).trans x2
end Take3
