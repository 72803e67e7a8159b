/-! ===== rows come; a scan is kept ===== -/
def RLL (M m : Mem) (RR : Nat → List Row) : Prop := ∀ s, s < 6 → RWl M s (RR s) ∧ RM m s (RR s) ∧ okW (RR s)
def FLc (N M : Mem) : Prop := (∀ a, a ≠ 149 → a ≠ 150 → a ≠ 152 → N a = M a) ∧ ∀ j, j ≠ 7 → j ≠ 9 → j ≠ 13 → j ≠ 14 → N 152 j = M 152 j
/-- the other seats stand as they stood -/
def SLo (i : Nat) (N n M m : Mem) : Prop := ∀ i' A, i' < 3 → i' ≠ i → SL M m i' A → SL N n i' A
section ScanL
variable {fu t u s i j e nS nL nC nO cap a b a9 l9 : Nat} {M m N n : Mem} {R A : List Row} {RR : Nat → List Row} {co : Option Nat} {L : List Ent} {sr kt : Nat → Nat}
theorem SLo.rfl : SLo i M m M m := fun _ _ _ _ h => h
theorem SLo.trans {P p : Mem} (h : SLo i N n P p) (h' : SLo i P p M m) : SLo i N n M m := fun i' A z1 z2 z3 => h i' A z1 z2 (h' i' A z1 z2 z3)
theorem SL.cg (h : SL M m i A) (h1 : N 149 = M 149) (h2 : N 150 = M 150) (g1 : n 43 = m 43) (g2 : n 44 = m 44) (g3 : n 45 = m 45) : SL N n i A := ⟨h.1.cg2 h2 h1, h.2.1.cg (by rw [g1]) g2 g3, h.2.2⟩
theorem SLo.of (h1 : N 149 = M 149) (h2 : N 150 = M 150) (g1 : n 43 = m 43) (g2 : n 44 = m 44) (g3 : n 45 = m 45) : SLo i N n M m := fun _ _ _ _ h => h.cg h1 h2 g1 g2 g3
theorem RLL.cg (h : RLL M m RR) (h1 : N 142 = M 142) (h2 : N 143 = M 143) (g1 : n 1 = m 1) (g2 : n 2 = m 2) (g3 : n 3 = m 3) : RLL N n RR := fun s hs => ⟨(h s hs).1.cg2 h2 h1, (h s hs).2.1.cg (by rw [g1]) g2 g3, (h s hs).2.2⟩
theorem QS.cg (h : QS M m) (h1 : N 152 4 = M 152 4 ∧ N 152 5 = M 152 5 ∧ N 152 6 = M 152 6 ∧ N 152 7 = M 152 7 ∧ N 152 8 = M 152 8 ∧ N 152 9 = M 152 9 ∧ N 152 13 = M 152 13) (h2 : ∀ j, j = 52 ∨ j = 53 ∨ j = 54 ∨ j = 55 ∨ j = 80 ∨ j = 81 ∨ j = 82 → n 0 j = m 0 j) : QS N n := by
  obtain ⟨q1, q2, q3, q4, q5, q6, q7⟩ := h
  obtain ⟨z1, z2, z3, z4, z5, z6, z7⟩ := h1
  exact ⟨by rw [z1, h2 52 (by omega)]; exact q1, by rw [z2, h2 53 (by omega)]; exact q2, by rw [z3, h2 54 (by omega)]; exact q3, by rw [z4, h2 80 (by omega)]; exact q4, by rw [z5, h2 81 (by omega)]; exact q5, by rw [z6, h2 82 (by omega)]; exact q6, by rw [z7, h2 55 (by omega)]; exact q7⟩
theorem come_L (hfu : 5000 ≤ fu) (hi : i < nS) (hs6 : s < 6) (hk : okW R) (hco : ∀ c, co = some c → c < 4) (hab : a ≤ b) (hb : b ≤ l9) (hb12 : b ≤ 12) (hl : l9 < 2 ^ 20) (hcap : cap ≤ 12) (ha9 : a9 ≠ 149 ∧ a9 ≠ 150 ∧ a9 ≠ 152) (hD : DL M m nS nL nC nO) (hG : DG m nS nL nC nO) (hm : m 19 i = nI s) (hR : RWl M s R) (hRM : RM m s R) (hkf : ∀ j, a ≤ j → j < b → M a9 j = m 48 j) (hc1 : M 145 (9 + s / 2) = nI cap) (hc2 : m 9 (s / 2) = nI cap) (hA : SL M m i A) (hcnt : A.length + ct (rsel (m 48) co a b R) R.length ≤ 10) (h16 : m 16 = freight) (hQ : QS M m) :
    ∃ N n A' cut, f_L_come fu (nI i) (oI co) a9 l9 (nI a) (nI b) M = some N ∧ f_X11_comes fu (nI i) (oI co) (nI a) (nI b) m = some n ∧ SL N n i A' ∧ n 0 62 = bI cut ∧ N 152 14 = bI cut ∧ FLc N M ∧ FMr n m ∧ SLo i N n M m ∧ A'.length ≤ A.length + ct (rsel (m 48) co a b R) R.length ∧ QS N n := by
  have hS3 := hG.1.2
  have h10 := hR.2.1
  let M3 := up M 152 14 0
  let m3 := up m 0 62 0
  have e3 : ∀ a, a ≠ 152 → M3 a = M a := fun a ha => up_n ha
  have f3 : ∀ a, a ≠ 0 → m3 a = m a := fun a ha => up_n ha
  have f30 : ∀ j, j ≠ 62 → m3 0 j = m 0 j := fun j hj => up_m hj
  have hDS : DS m3 m := ⟨fun q _ _ => f3 q (by omega), fun j _ _ => f30 j (by omega)⟩
  obtain ⟨N, n, A', n', cut, q1, q2, q3, q4, q5, q6, q7, q8, q9, q10, q11⟩ := comeBoth (fu := fu) (co := co) (a := a) (b := b) (a9 := a9) (l9 := l9) (i := i) (k161 := fun (x13_5 : Int32) (M_6 : Mem) => nm (up M_6 152 9 ((M_6 152 9) + x13_5)) (fun M_7 => nm (up M_7 152 7 ((M_7 152 7) + (x13_5 * (f_L_freight (nI s / 2))))) (fun M_9 => nm (up M_9 152 13 ((M_9 152 13) + (x13_5 * (f_L_freight (nI s / 2))))) (fun M_11 => some M_11)))) (k132 := fun (x13_13 : Int32) (M_14 : Mem) => nm (up M_14 152 14 1) (fun M_15 => nm (up M_15 152 9 ((M_15 152 9) + x13_13)) (fun M_7 => nm (up M_7 152 7 ((M_7 152 7) + (x13_13 * (f_L_freight (nI s / 2))))) (fun M_9 => nm (up M_9 152 13 ((M_9 152 13) + (x13_13 * (f_L_freight (nI s / 2))))) (fun M_11 => some M_11))))) (kk := fun (x6_5 : Int32) (M_6 : Mem) => nm (up M_6 0 82 ((M_6 0 82) + x6_5)) (fun M_7 => grd (inb (f_X11_storeOf (nI s)) 3) (bd (f_X11_pays fu (x6_5 * (M_7 16 (f_X11_storeOf (nI s)).toNatClampNeg)) M_7) (fun M_10 => some M_10)))) hfu hi hS3 hs6 hk hco hab hb hb12 hl hcap ⟨ha9.1, ha9.2.1⟩ R.length 0 fu fu M3 m3 A 0 (by omega) (by omega) (by omega) (hD.cg (e3 146 (by omega)) (fun q _ _ => f3 q (by omega)) (f30 37 (by omega)) (f30 38 (by omega))) (hG.cg hDS) (by rw [f3 19 (by omega)]; exact hm) (hR.cg2 (e3 143 (by omega)) (e3 142 (by omega))) (hRM.cg (by rw [f3 1 (by omega)]) (f3 2 (by omega)) (f3 3 (by omega))) (fun j z1 z2 => by rw [e3 a9 ha9.2.2, f3 48 (by omega)]; exact hkf j z1 z2) (by rw [e3 145 (by omega)]; exact hc1) (by rw [f3 9 (by omega)]; exact hc2) (hA.cg (e3 149 (by omega)) (e3 150 (by omega)) (f3 43 (by omega)) (f3 44 (by omega)) (f3 45 (by omega))) up_s (Nat.zero_le _) (by rw [f3 48 (by omega)]; simp only [ct]; omega)
  rw [f3 48 (by omega)] at q11
  have hn16 : n 16 = freight := by rw [q8 16 (by omega) (by omega) (by omega) (by omega), f3 16 (by omega)]; exact h16
  obtain ⟨fr, f1, f2⟩ := freight_b (k := s / 2)
  have hfr := (lfee hs6).2
  have hsi : M 146 (6 + i) = nI s := by rw [hD.2.1 i hi]; exact hm
  have e6 : (6 : Int32) + nI i = nI (6 + i) := nI_add 6 i
  let P := up (up (up N 152 14 (bI cut)) 152 9 (N 152 9 + nI n')) 152 7 (N 152 7 + nI n' * freight (s / 2))
  let Q := up P 152 13 (N 152 13 + nI n' * freight (s / 2))
  let q := up (up (up n 0 82 (n 0 82 + nI n')) 0 80 (n 0 80 + nI n' * freight (s / 2))) 0 55 (n 0 55 + nI n' * freight (s / 2))
  have eL : f_L_come fu (nI i) (oI co) a9 l9 (nI a) (nI b) M = some Q := by
    have : f_L_come fu (nI i) (oI co) a9 l9 (nI a) (nI b) M = f_L_come_L21 fu (nI i) (oI co) a9 l9 (nI a) (nI b) (nI s) (fun (x13_5 : Int32) (M_6 : Mem) => nm (up M_6 152 9 ((M_6 152 9) + x13_5)) (fun M_7 => nm (up M_7 152 7 ((M_7 152 7) + (x13_5 * (f_L_freight (nI s / 2))))) (fun M_9 => nm (up M_9 152 13 ((M_9 152 13) + (x13_5 * (f_L_freight (nI s / 2))))) (fun M_11 => some M_11)))) (fun (x13_13 : Int32) (M_14 : Mem) => nm (up M_14 152 14 1) (fun M_15 => nm (up M_15 152 9 ((M_15 152 9) + x13_13)) (fun M_7 => nm (up M_7 152 7 ((M_7 152 7) + (x13_13 * (f_L_freight (nI s / 2))))) (fun M_9 => nm (up M_9 152 13 ((M_9 152 13) + (x13_13 * (f_L_freight (nI s / 2))))) (fun M_11 => some M_11))))) fu (nI 0) (nI 0) M3 := by
      simp (disch := omega) only [f_L_come, e6, inb_nI, grd_true, nI_clamp, hsi]
      rfl
    rw [this, q1]
    have c0 : up N 152 14 (bI false) = N := up_self (by rw [q7 152 (by omega) (by omega)]; exact up_s)
    cases cut with
    | true =>
      simp (disch := omega) only [if_true, nm_d, up_m, hfr]
      rfl
    | false =>
      have hQ' : Q = up (up (up N 152 9 (N 152 9 + nI n')) 152 7 (N 152 7 + nI n' * freight (s / 2))) 152 13 (N 152 13 + nI n' * freight (s / 2)) := by
        show up (up (up (up N 152 14 (bI false)) 152 9 _) 152 7 _) 152 13 _ = _
        rw [c0]
      rw [hQ']
      simp (disch := omega) only [Bool.false_eq_true, if_false, nm_d, up_m, hfr]
  have hst : f_X10_storeOf (nI s) = nI (s / 2) := sto hs6
  have eX : f_X11_comes fu (nI i) (oI co) (nI a) (nI b) m = some q := by
    have : f_X11_comes fu (nI i) (oI co) (nI a) (nI b) m = f_X11_comes_L19 fu (nI i) (oI co) (nI a) (nI b) (nI s) (fun (x6_5 : Int32) (M_6 : Mem) => nm (up M_6 0 82 ((M_6 0 82) + x6_5)) (fun M_7 => grd (inb (f_X11_storeOf (nI s)) 3) (bd (f_X11_pays fu (x6_5 * (M_7 16 (f_X11_storeOf (nI s)).toNatClampNeg)) M_7) (fun M_10 => some M_10)))) fu (nI 0) (nI 0) m3 := by
      simp (disch := omega) only [f_X11_comes, inb_nI, grd_true, nI_clamp, hm]
      rfl
    rw [this, q2]
    simp (disch := omega) only [nm_d, st_store, hst, inb_nI, grd_true, nI_clamp, f_X11_pays, up_n, up_m, hn16, bd_some]
    rfl
  have o152 : ∀ x, x ≠ 7 → x ≠ 9 → x ≠ 13 → x ≠ 14 → Q 152 x = M 152 x := fun x z1 z2 z3 z4 => by
    show up (up (up (up N _ _ _) _ _ _) _ _ _) _ _ _ 152 x = _
    rw [up_m z3, up_m z1, up_m z2, up_m z4, q7 152 (by omega) (by omega)]
    exact up_m z4
  have oo : ∀ x, x ≠ 152 → Q x = N x := fun x z => by
    show up (up (up (up N _ _ _) _ _ _) _ _ _) _ _ _ x = _
    rw [up_n z, up_n z, up_n z, up_n z]
  have qo : ∀ x, x ≠ 0 → q x = n x := fun x z => by
    show up (up (up n _ _ _) _ _ _) _ _ _ x = _
    rw [up_n z, up_n z, up_n z]
  have q0 : ∀ x, x ≠ 82 → x ≠ 80 → x ≠ 55 → q 0 x = n 0 x := fun x z1 z2 z3 => by
    show up (up (up n _ _ _) _ _ _) _ _ _ 0 x = _
    rw [up_m z3, up_m z2, up_m z1]
  have n152 : ∀ x, x ≠ 14 → N 152 x = M 152 x := fun x hx => by rw [q7 152 (by omega) (by omega)]; exact up_m hx
  have nn0 : ∀ x, x ≠ 62 → n 0 x = m 0 x := fun x hx => by rw [q9 x hx]; exact f30 x hx
  refine ⟨Q, q, A', cut, eL, eX, q3.cg (oo 149 (by omega)) (oo 150 (by omega)) (qo 43 (by omega)) (qo 44 (by omega)) (qo 45 (by omega)), by rw [q0 62 (by omega) (by omega) (by omega)]; exact q4, ?_, ⟨fun x z1 z2 z3 => by rw [oo x z3, q7 x z1 z2]; exact e3 x z3, o152⟩, ⟨fun x z1 z2 z3 z4 => by rw [qo x z1, q8 x z1 z2 z3 z4]; exact f3 x z1, fun x z1 z2 z3 z4 => by rw [q0 x z4 z3 z1]; exact nn0 x z2⟩, ?_, by simp only [ct] at q11; omega, ?_⟩
  · show up (up (up (up N _ _ _) _ _ _) _ _ _) _ _ _ 152 14 = _
    rw [up_m (by omega), up_m (by omega), up_m (by omega), up_s]
  · intro i' B z1 z2 z3
    exact (q10 i' B z1 z2 (z3.cg (e3 149 (by omega)) (e3 150 (by omega)) (f3 43 (by omega)) (f3 44 (by omega)) (f3 45 (by omega)))).cg (oo 149 (by omega)) (oo 150 (by omega)) (qo 43 (by omega)) (qo 44 (by omega)) (qo 45 (by omega))
  · obtain ⟨w1, w2, w3, w4, w5, w6, w7⟩ := hQ
    refine ⟨?_, ?_, ?_, ?_, ?_, ?_, ?_⟩
    · rw [o152 4 (by omega) (by omega) (by omega) (by omega), q0 52 (by omega) (by omega) (by omega), nn0 52 (by omega)]; exact w1
    · rw [o152 5 (by omega) (by omega) (by omega) (by omega), q0 53 (by omega) (by omega) (by omega), nn0 53 (by omega)]; exact w2
    · rw [o152 6 (by omega) (by omega) (by omega) (by omega), q0 54 (by omega) (by omega) (by omega), nn0 54 (by omega)]; exact w3
    · show up (up (up (up N _ _ _) _ _ _) _ _ _) _ _ _ 152 7 = up (up (up n _ _ _) _ _ _) _ _ _ 0 80
      rw [up_m (by omega), up_s, up_m (by omega), up_s, n152 7 (by omega), nn0 80 (by omega), w4]
    · rw [o152 8 (by omega) (by omega) (by omega) (by omega), q0 81 (by omega) (by omega) (by omega), nn0 81 (by omega)]; exact w5
    · show up (up (up (up N _ _ _) _ _ _) _ _ _) _ _ _ 152 9 = up (up (up n _ _ _) _ _ _) _ _ _ 0 82
      rw [up_m (by omega), up_m (by omega), up_s, up_m (by omega), up_m (by omega), up_s, n152 9 (by omega), nn0 82 (by omega), w6]
    · show up (up (up (up N _ _ _) _ _ _) _ _ _) _ _ _ 152 13 = up (up (up n _ _ _) _ _ _) _ _ _ 0 55
      rw [up_s, up_s, n152 13 (by omega), nn0 55 (by omega), w7]
end ScanL
