/-! ===== all rows that are matched ===== -/
def FF (m : Mem) (nC : Nat) (A : Nat → List Row) (i : Nat) : List Row := (A i).filter (fun r => al (hA m i r) nC)
section RowsAll
variable {fu nS nL nC nO i j s t u e p c to : Nat} {M m N n : Mem} {A : Nat → List Row} {F R : List Row} {r : Row} {hh : Bool}
theorem RX.cg (h : RX m hh i R) (f : ∀ a, a ≠ 0 → a ≠ 49 → a ≠ 50 → a ≠ 51 → n a = m a) : RX n hh i R := by
  refine ⟨fun z => (h.1 z).cg (by rw [f 43 (by omega) (by omega) (by omega) (by omega)]) (f 44 (by omega) (by omega) (by omega) (by omega)) (f 45 (by omega) (by omega) (by omega) (by omega)), fun z => ?_⟩
  obtain ⟨s, s1, s2, s3⟩ := h.2 z
  exact ⟨s, s1, by rw [f 19 (by omega) (by omega) (by omega) (by omega)]; exact s2, s3.cg (by rw [f 1 (by omega) (by omega) (by omega) (by omega)]) (f 2 (by omega) (by omega) (by omega) (by omega)) (f 3 (by omega) (by omega) (by omega) (by omega))⟩
theorem RX.len (h : RX m hh i R) : R.length ≤ 12 := by
  cases hh with
  | true => exact (h.1 rfl).2.1
  | false => obtain ⟨_, _, _, h⟩ := h.2 rfl; exact h.2.1
theorem rowsL {k : Mem → Option Mem} (hfu : 5000 ≤ fu) (hi : i < 3) (hok : okR R) (mm : Mem) : ∀ d p n F (m : Mem), p + d = R.length → d < n → DG m nS nL nC nO → DS m mm → RX m hh i R → RW m i F → F.length ≤ p →
    ∃ N, f_X11_makes_L29 fu (bI hh) (nI i) k n (nI p) m = k N ∧ RW N i (F ++ (R.drop p).filter (fun r => al (hA mm i r) nC)) ∧ (∀ a, a ≠ 49 → a ≠ 50 → N a = m a) ∧ (∀ j, j ≠ i → N 49 j = m 49 j) ∧ (∀ x, x < 48 * i ∨ 48 * i + 48 ≤ x → N 50 x = m 50 x) := by
  intro d
  induction d with
  | zero =>
    intro p n F m h1 h2 hG hD hX hF hl
    obtain ⟨n, rfl⟩ := fu1 h2
    obtain rfl : p = R.length := by omega
    have h12 := hX.len
    refine ⟨m, ?_, by simpa using hF, fun _ _ _ => rfl, fun _ _ => rfl, fun _ _ => rfl⟩
    cases hh with
    | true =>
      have h := hX.1 rfl
      have i1 : ¬ (bI true = nI 0) := by decide
      simp (disch := omega) only [f_X11_makes_L29, lit, nI_add, pk_mul, pk_sub, nI_clamp, inb_nI, nI_leI, nI_ltI, nI_eq, add_m1, ↓reduceIte, grd_true, nm_d, jn_d, bd_some, bm_some, om_some, om_none, i1, h.1, Nat.le_refl]
    | false =>
      obtain ⟨s, s1, s2, h⟩ := hX.2 rfl
      have i1 : (bI false = nI 0) = True := by decide
      simp (disch := omega) only [f_X11_makes_L29, lit, nI_add, pk_mul, pk_sub, nI_clamp, inb_nI, nI_leI, nI_ltI, nI_eq, add_m1, ↓reduceIte, grd_true, nm_d, jn_d, bd_some, bm_some, om_some, om_none, i1, s2, h.1, Nat.le_refl]
  | succ d ih =>
    intro p n F m h1 h2 hG hD hX hF hl
    obtain ⟨n, rfl⟩ := fu1 h2
    have h12 := hX.len
    have h3 : ¬ R.length ≤ p := by omega
    obtain ⟨r, hr⟩ := gl_some (R := R) (i := p) (by omega)
    have hokr := hok r (List.mem_of_getElem? hr)
    have hd := filt_drop (q := fun r => al (hA mm i r) nC) hr
    obtain ⟨P, g1, g2, g3, g4, g5⟩ := laysRow_eq (fu := fu) hfu hG hi hX hr hokr hF (by omega)
    rw [hD.cA] at g2
    have e1 : f_X11_makes_L29 fu (bI hh) (nI i) k (n + 1) (nI p) m = f_X11_makes_L29 fu (bI hh) (nI i) k n (nI (p + 1)) P := by
      cases hh with
      | true =>
        have h := hX.1 rfl
        have i1 : ¬ (bI true = nI 0) := by decide
        simp (disch := omega) only [f_X11_makes_L29, lit, nI_add, pk_mul, pk_sub, nI_clamp, inb_nI, nI_leI, nI_ltI, nI_eq, add_m1, ↓reduceIte, grd_true, nm_d, jn_d, bd_some, bm_some, om_some, om_none, i1, h.1, h3, g1]
      | false =>
        obtain ⟨s, s1, s2, h⟩ := hX.2 rfl
        have i1 : (bI false = nI 0) = True := by decide
        simp (disch := omega) only [f_X11_makes_L29, lit, nI_add, pk_mul, pk_sub, nI_clamp, inb_nI, nI_leI, nI_ltI, nI_eq, add_m1, ↓reduceIte, grd_true, nm_d, jn_d, bd_some, bm_some, om_some, om_none, i1, s2, h.1, h3, g1]
    have fD : DS P m := ⟨fun a z1 z2 => g3 a (by omega) (by omega), fun j z1 z2 => by rw [g3 0 (by omega) (by omega)]⟩
    obtain ⟨N, y1, y2, y3, y4, y5⟩ := ih (p + 1) n _ P (by omega) (by omega) (hG.cg fD) (fD.trans hD) (hX.cg (fun a _ z2 z3 _ => g3 a z2 z3)) g2 (by rw [List.length_append]; split <;> simp <;> omega)
    refine ⟨N, by rw [e1, y1], ?_, fun a z1 z2 => by rw [y3 a z1 z2, g3 a z1 z2], fun j hj => by rw [y4 j hj, g4 j hj], fun x hx => by rw [y5 x hx, g5 x hx]⟩
    rw [hd, ← List.append_assoc]
    exact y2
theorem rowsAllL {k : Int32 → Mem → Option Mem} (hfu : 5000 ≤ fu) (mm : Mem) (hok : ∀ i, i < nS → okR (A i)) : ∀ d s n (m : Mem), s + d = nS → d < n → DG m nS nL nC nO → DS m mm → (∀ i, i < nS → RX m hh i (A i)) → (∀ i, i < s → RW m i (FF mm nC A i) ∧ m 51 i = nI 0) →
    ∃ N, f_X11_makes_L4 fu (bI hh) k n (bI (al (fun i => decide (0 < (FF mm nC A i).length)) s)) (nI s) m = k (bI (al (fun i => decide (0 < (FF mm nC A i).length)) nS)) N ∧ (∀ i, i < nS → RW N i (FF mm nC A i) ∧ N 51 i = nI 0) ∧ (∀ a, a ≠ 49 → a ≠ 50 → a ≠ 51 → N a = m a) := by
  intro d
  induction d with
  | zero =>
    intro s n m h1 h2 hG hD hX hF
    obtain ⟨n, rfl⟩ := fu1 h2
    obtain rfl : s = nS := by omega
    have hS := hG.1
    exact ⟨m, by simp (disch := omega) only [f_X11_makes_L4, hS.1, lit, nI_add, pk_mul, pk_sub, nI_clamp, inb_nI, nI_leI, nI_ltI, nI_eq, add_m1, ↓reduceIte, grd_true, nm_d, jn_d, bd_some, bm_some, om_some, om_none, Nat.le_refl], hF, fun _ _ _ _ => rfl⟩
  | succ d ih =>
    intro s n m h1 h2 hG hD hX hF
    obtain ⟨n, rfl⟩ := fu1 h2
    have hS := hG.1
    have h3 : ¬ nS ≤ s := by omega
    have hXs := (hX s (by omega)).cg (n := up (up m 49 s (nI 0)) 51 s (nI 0)) (fun a z1 z2 z3 z4 => by rw [up_n z4, up_n z2])
    have fD : DS (up (up m 49 s (nI 0)) 51 s (nI 0)) m := ⟨fun a z1 z2 => by rw [up_n (by omega), up_n (by omega)], fun j z1 z2 => by rw [up_n (by omega), up_n (by omega)]⟩
    have h12 := (hX s (by omega)).len
    obtain ⟨P, g1, g2, g3, g4, g5⟩ := rowsL (fu := fu) (k := fun (M_42 : Mem) => (if (bI (al (fun i => decide (0 < (FF mm nC A i).length)) s)) = 0 then f_X11_makes_L4 fu (bI hh) k n 0 (nI s + 1) M_42 else (if (M_42 49 (nI s).toNatClampNeg) ≤ 0 then f_X11_makes_L4 fu (bI hh) k n 0 (nI s + 1) M_42 else f_X11_makes_L4 fu (bI hh) k n 1 (nI s + 1) M_42))) hfu (show s < 3 by omega) (hok s (by omega)) mm (A s).length 0 fu [] (up (up m 49 s (nI 0)) 51 s (nI 0)) (by omega) (by omega) (hG.cg fD) (fD.trans hD) hXs ⟨by rw [up_n (by omega), up_s]; rfl, by simp, fun k r hr => by simp at hr⟩ (by simp)
    rw [List.drop_zero, List.nil_append] at g2
    have hFs : RW P s (FF mm nC A s) := g2
    have hfl := hFs.2.1
    have e1 : f_X11_makes_L4 fu (bI hh) k (n + 1) (bI (al (fun i => decide (0 < (FF mm nC A i).length)) s)) (nI s) m = f_X11_makes_L4 fu (bI hh) k n (bI (al (fun i => decide (0 < (FF mm nC A i).length)) (s + 1))) (nI (s + 1)) P := by
      have e0 : f_X11_makes_L4 fu (bI hh) k (n + 1) (bI (al (fun i => decide (0 < (FF mm nC A i).length)) s)) (nI s) m = f_X11_makes_L29 fu (bI hh) (nI s) (fun (M_42 : Mem) => (if (bI (al (fun i => decide (0 < (FF mm nC A i).length)) s)) = 0 then f_X11_makes_L4 fu (bI hh) k n 0 (nI s + 1) M_42 else (if (M_42 49 (nI s).toNatClampNeg) ≤ 0 then f_X11_makes_L4 fu (bI hh) k n 0 (nI s + 1) M_42 else f_X11_makes_L4 fu (bI hh) k n 1 (nI s + 1) M_42))) fu (nI 0) (up (up m 49 s (nI 0)) 51 s (nI 0)) := by
        have hle : ¬ nI nS ≤ nI s := by rw [nI_leI (by omega) (by omega)]; exact h3
        have cs : (nI s).toNatClampNeg = s := nI_clamp (by omega)
        simp only [f_X11_makes_L4, hS.1, if_neg hle, inb_nI (show s < 3 by omega) (show 3 < 2 ^ 31 by omega), grd_true, nm_d, jn_d, cs]
        rfl
      have cs : (nI s).toNatClampNeg = s := nI_clamp (by omega)
      rw [e0, g1, cs, hFs.1, nI_1]
      have c0 : (nI (FF mm nC A s).length ≤ 0) = ((FF mm nC A s).length = 0) := propext (by rw [lit, nI_leI (by omega) (by omega)]; omega)
      have e00 : (0 : Int32) = nI 0 := rfl
      have cb : (bI (al (fun i => decide (0 < (FF mm nC A i).length)) s) = 0) = (al (fun i => decide (0 < (FF mm nC A i).length)) s = false) := bI_0
      simp only [c0, cb, al]
      cases hal : al (fun i => decide (0 < (FF mm nC A i).length)) s with
      | false => rw [if_pos rfl]; rfl
      | true =>
        rw [if_neg (by decide)]
        by_cases hz : (FF mm nC A s).length = 0
        · rw [if_pos hz]
          have : decide (0 < (FF mm nC A s).length) = false := decide_eq_false (by omega)
          rw [this]
          rfl
        · rw [if_neg hz]
          have : decide (0 < (FF mm nC A s).length) = true := decide_eq_true (by omega)
          rw [this]
          rfl
    have fD2 : DS P m := ⟨fun a z1 z2 => by rw [g3 a (by omega) (by omega)]; exact fD.1 a z1 z2, fun j z1 z2 => by rw [g3 0 (by omega) (by omega)]; exact fD.2 j z1 z2⟩
    have fP : ∀ a, a ≠ 49 → a ≠ 50 → a ≠ 51 → P a = m a := fun a z1 z2 z3 => by rw [g3 a z1 z2, up_n z3, up_n z1]
    obtain ⟨N, y1, y2, y3⟩ := ih (s + 1) n P (by omega) (by omega) (hG.cg fD2) (fD2.trans hD) (fun i hi => (hX i hi).cg (fun a _ z2 z3 z4 => fP a z2 z3 z4)) (fun i hi => by
      by_cases his : i = s
      · subst his
        exact ⟨hFs, by rw [g3 51 (by omega) (by omega), up_s]⟩
      · obtain ⟨q1, q2⟩ := hF i (by omega)
        refine ⟨q1.cg ?_ (fun x hx => ?_), ?_⟩
        · rw [g4 i his, up_n (by omega), up_m his]
        · rw [g5 _ (by omega), up_n (by omega), up_n (by omega)]
        · rw [g3 51 (by omega) (by omega), up_m his, up_n (by omega)]; exact q2)
    exact ⟨N, by rw [e1, y1], y2, fun a z1 z2 z3 => by rw [y3 a z1 z2 z3, fP a z1 z2 z3]⟩
end RowsAll
