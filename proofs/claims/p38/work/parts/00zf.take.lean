/-! ===== a seat is taken: both ===== -/
def mk128 (i : Int32) : Int32 → Mem → Option Mem := fun (x4_7 : Int32) (M_8 : Mem) => grd (inb i 3) (nm (up M_8 42 i.toNatClampNeg 1) (fun M_10 => nm ((if x4_7 < 10 then 0 else (1 <<< (i &&& 31))) : Int32) (fun v_12 => nm (up M_10 0 78 ((M_10 0 78) ||| v_12)) (fun M_13 => grd (inb (M_13 0 83) 3) (nm (up M_13 57 (M_13 0 83).toNatClampNeg ((10 * i) + (x4_7 - x4_7 / 10 * 10))) (fun M_15 => nm (up M_15 0 83 ((M_15 0 83) + 1)) (fun M_16 => some M_16)))))))
def mk101 (i : Int32) : Int32 → Mem → Option Mem := fun (x4_19 : Int32) (M_20 : Mem) => grd (inb i 3) (grd (inb (M_20 19 i.toNatClampNeg) 6) (nm (up M_20 46 i.toNatClampNeg (M_20 5 (M_20 19 i.toNatClampNeg).toNatClampNeg)) (fun M_23 => nm (up M_23 47 i.toNatClampNeg (M_23 0 7)) (fun M_24 => mk128 i x4_19 M_24))))
def mk83 (fu : Nat) (i : Int32) : Mem → Option Mem := fun (M_26 : Mem) => bm (f_X11_scans fu i M_26) (fun r_28 M_29 => nm ((if r_28 = 0 then 0 else 10) : Int32) (fun v_31 => nm (3 + v_31) (fun x4_32 => mk101 i x4_32 M_29)))
def ck164 (fu : Nat) (i : Int32) : Int32 → Mem → Option Mem := fun x4_19 M_20 => (if x4_19 = 1 then bd (f_X1_close fu i x4_19 M_20) (fun M_24 => some M_24) else bd (f_X1_scan fu i M_20) (fun M_27 => bd (f_X1_close fu i x4_19 M_27) (fun M_24 => some M_24)))
theorem takes_split {fu : Nat} {p1 : Int32} {M : Mem} : f_X11_takes fu p1 M = nm (up M 0 55 0) (fun M_1 => bd (f_X11_entryFor fu p1 M_1) (fun r_3 => bd (f_X11_linkOf fu p1 M_1) (fun r_5 => (if r_3 = (-1) then (if r_5 = (-1) then mk83 fu p1 M_1 else bm (f_X11_canBind fu p1 r_5 M_1) (fun r_35 M_36 => (if r_35 = 0 then mk83 fu p1 M_36 else grd (inb r_5 3) (nm ((if (M_36 20 r_5.toNatClampNeg) = p1 then (M_36 21 r_5.toNatClampNeg) else (M_36 23 r_5.toNatClampNeg)) : Int32) (fun v_40 => bm (f_X11_binds fu p1 v_40 M_36) (fun r_42 M_43 => mk101 p1 r_42 M_43)))))) else bd (f_X11_serves fu r_3 p1 M_1) (fun M_45 => mk128 p1 0 M_45))))) := rfl
theorem take_split {fu : Nat} {p1 : Int32} {M : Mem} : f_X1_takeSeat fu p1 M = grd (inb p1 3) (nm (M 81 p1.toNatClampNeg) (fun x2_2 => bd (f_X3_serving fu p1 (M 120 7) M) (fun r_4 => om r_4 (fun e_5 => grd (kb 5 e_5) (nm (95 + 1 + 3 * p1.toNatClampNeg) (fun a_6 => bd (f_X6_copy fu a_6 (e_5 + 1) M) (fun M_8 => bd (f_X1_narrow fu (M_8 e_5 8) (M_8 e_5 9) M_8) (fun M_10 => bd (f_X1_close fu p1 0 M_10) (fun M_12 => some M_12)))))) (grd (inb x2_2 6) (bd (f_X1_narrow fu (M 60 x2_2.toNatClampNeg) (M 120 10) M) (fun M_15 => bd (f_X1_endOf fu p1 M_15) (fun r_17 => (if r_17 = (-1) then ck164 fu p1 3 M_15 else bd (f_X1_mayBind fu x2_2 r_17 M_15) (fun r_30 => (if r_30 = 0 then ck164 fu p1 3 M_15 else bd (f_X1_scanCost fu p1 M_15) (fun r_33 => bd (f_X1_gatherKeys fu (r_17 ^^^ 1) M_15) (fun M_35 => bd (f_X1_bindCost fu (f_X10_storeOf x2_2) M_35) (fun r_37 => (if r_33 ≤ r_37 then ck164 fu p1 3 M_35 else grd (inb r_17 6) (bm (f_X1_bind fu p1 (M_35 83 r_17.toNatClampNeg) ((M_35 90 9) + r_33) M_35) (fun r_41 M_42 => ck164 fu p1 r_41 M_42)))))))))))))))) := rfl
def mx3 (tk : Nat → Bool) (f : Nat → Nat) : Nat := max (if tk 0 = true then f 0 else 0) (max (if tk 1 = true then f 1 else 0) (if tk 2 = true then f 2 else 0))
def mn3 (tk : Nat → Bool) (f : Nat → Nat) (u : Nat) : Nat := min (if tk 0 = true then f 0 else u) (min (if tk 1 = true then f 1 else u) (if tk 2 = true then f 2 else u))
def cn3 (tk : Nat → Bool) : Nat := (if tk 0 = true then 1 else 0) + (if tk 1 = true then 1 else 0) + (if tk 2 = true then 1 else 0)
def setB (tk : Nat → Bool) (i : Nat) : Nat → Bool := fun j => if j = i then true else tk j
def setN (f : Nat → Nat) (i v : Nat) : Nat → Nat := fun j => if j = i then v else f j
/-- the bundle -/
def BB (M m : Mem) : Prop := ∃ q, q ≤ 4 ∧ M 122 9 = nI q ∧ m 0 85 = nI q ∧ ∀ i, i < q → M 123 i = m 58 i ∧ M 124 i = m 59 i ∧ (∃ s, s < 6 ∧ m 59 i = nI s) ∧ (m 58 i = 0 ∨ m 58 i = 1 ∨ m 58 i = 2) ∧ M 125 (4 * i) = m 60 i ∧ M 125 (4 * i + 1) = m 61 i ∧ M 125 (4 * i + 2) = m 62 i ∧ M 125 (4 * i + 3) = m 63 i ∧ M 126 i = 0
/-- what is so of the seats but one -/
def SX (M m : Mem) (nS nC fr : Nat) (tk : Nat → Bool) (p o i u : Nat) (sn un : Nat → Nat) : Prop :=
  TK M m tk p ∧ cn3 tk = p ∧ (∀ j, tk j = true → j < nS) ∧ (M 120 7 = nI fr ∧ m 0 53 = nI fr) ∧ (m 0 78 = nI o ∧ o < 8 ∧ ∀ j, j < 3 → tk j = false → o.testBit j = false) ∧ (∀ j, j < 3 → j ≠ i → tk j = false → RC M (96 + 3 * j) []) ∧ (∀ j, j < 3 → j ≠ i → tk j = true → ∃ A, RS m j A ∧ okR A ∧ RC M (96 + 3 * j) (A.filter (fun r => al (hA m j r) nC))) ∧ (∀ x, x < p → ∃ s h, s < 3 ∧ h < 4 ∧ M 93 x = nI s ∧ M 94 x = nI h ∧ m 57 x = nI (10 * s + h)) ∧ (∀ j, j < 3 → tk j = true → m 46 j = nI (sn j) ∧ m 47 j = nI (un j) ∧ sn j ≤ u ∧ un j ≤ u) ∧ BB M m ∧ m 0 0 = 0
section Take
variable {fu nS nL nC nO i j s t u e p c fr t0 dl c0 sc o f g h : Nat} {M m N n : Mem} {RR : Nat → List Row} {A : List Row} {tk : Nat → Bool} {sn un : Nat → Nat}
theorem mx3_set (hi : i < 3) (ht : tk i = false) : mx3 (setB tk i) (setN sn i f) = max (mx3 tk sn) f := by
  have : i = 0 ∨ i = 1 ∨ i = 2 := by omega
  rcases this with rfl | rfl | rfl <;> simp [mx3, setB, setN, ht] <;> omega
theorem mn3_set (hi : i < 3) (ht : tk i = false) (hg : g ≤ u) : mn3 (setB tk i) (setN un i g) u = min (mn3 tk un u) g := by
  have : i = 0 ∨ i = 1 ∨ i = 2 := by omega
  rcases this with rfl | rfl | rfl <;> simp [mn3, setB, setN, ht] <;> omega
theorem cn3_set (hi : i < 3) (ht : tk i = false) : cn3 (setB tk i) = cn3 tk + 1 := by
  have : i = 0 ∨ i = 1 ∨ i = 2 := by omega
  rcases this with rfl | rfl | rfl <;> simp [cn3, setB, ht] <;> omega
theorem mn3_le (h : ∀ j, j < 3 → tk j = true → un j ≤ u) : mn3 tk un u ≤ u := by
  have : (if tk 0 = true then un 0 else u) ≤ u := by
    split
    · exact h 0 (by omega) (by assumption)
    · exact Nat.le_refl _
  simp only [mn3]
  omega
theorem mx3_le (h : ∀ j, j < 3 → tk j = true → sn j ≤ u) : mx3 tk sn ≤ u := by
  have a : ∀ j, j < 3 → (if tk j = true then sn j else 0) ≤ u := fun j hj => by
    split
    · exact h j hj (by assumption)
    · exact Nat.zero_le _
  have := a 0 (by omega)
  have := a 1 (by omega)
  have := a 2 (by omega)
  simp only [mx3]
  omega
theorem BB.cg (h : BB M m) (hB : (∀ a, 122 ≤ a → a ≤ 126 → N a = M a) ∧ (∀ a, 58 ≤ a → a ≤ 63 → n a = m a) ∧ n 0 85 = m 0 85) : BB N n := by
  obtain ⟨q, q1, q2, q3, q4⟩ := h
  obtain ⟨b1, b2, b3⟩ := hB
  refine ⟨q, q1, by rw [b1 122 (by omega) (by omega)]; exact q2, by rw [b3]; exact q3, ?_⟩
  rw [b1 123 (by omega) (by omega), b1 124 (by omega) (by omega), b1 125 (by omega) (by omega), b1 126 (by omega) (by omega), b2 58 (by omega) (by omega), b2 59 (by omega) (by omega), b2 60 (by omega) (by omega), b2 61 (by omega) (by omega), b2 62 (by omega) (by omega), b2 63 (by omega) (by omega)]
  exact q4
theorem SX.cg (hX : SX M m nS nC fr tk p o i u sn un) (h93 : N 93 = M 93) (h94 : N 94 = M 94) (hr : ∀ j, j < 3 → j ≠ i → ∀ R, RC M (96 + 3 * j) R → RC N (96 + 3 * j) R) (h12 : N 90 12 = M 90 12) (h7 : N 120 7 = M 120 7) (m42 : n 42 = m 42) (hit : tk i = false) (m46 : ∀ j, j ≠ i → n 46 j = m 46 j) (m47 : ∀ j, j ≠ i → n 47 j = m 47 j) (m57 : n 57 = m 57) (m83 : n 0 83 = m 0 83) (m53 : n 0 53 = m 0 53) (m78 : n 0 78 = m 0 78) (hRS : RSo i n m) (hDS : DS n m) (hB : (∀ a, 122 ≤ a → a ≤ 126 → N a = M a) ∧ (∀ a, 58 ≤ a → a ≤ 63 → n a = m a) ∧ n 0 85 = m 0 85 ∧ n 0 0 = m 0 0) : SX N n nS nC fr tk p o i u sn un := by
  obtain ⟨⟨⟨t1, t2, t3⟩, t4, t5⟩, x0, x1, x2, x3, x4, x5, x6, x7, x8⟩ := hX
  refine ⟨⟨⟨by rw [h12]; exact t1, by rw [m83]; exact t2, t3⟩, by rw [m42]; exact t4, by rw [h93]; exact t5⟩, x0, x1, ⟨by rw [h7]; exact x2.1, by rw [m53]; exact x2.2⟩, ⟨by rw [m78]; exact x3.1, x3.2⟩, fun j z1 z2 z3 => hr j z1 z2 _ (x4 j z1 z2 z3), fun j z1 z2 z3 => ?_, by rw [h93, h94, m57]; exact x6, fun j z1 z2 => by rw [m46 j (fun e => by rw [e, hit] at z2; cases z2), m47 j (fun e => by rw [e, hit] at z2; cases z2)]; exact x7 j z1 z2, x8.1.cg ⟨hB.1, hB.2.1, hB.2.2.1⟩, by rw [hB.2.2.2]; exact x8.2⟩
  obtain ⟨A, a1, a2, a3⟩ := x5 j z1 z2 z3
  rw [hDS.cA]
  exact ⟨A, hRS j A z1 z2 a1, a2, hr j z1 z2 _ a3⟩
theorem SX.fs (hi3 : i < 3) (hit : tk i = false) (hX : SX M m nS nC fr tk p o i u sn un) (hC : FCs i N M) (hM : FMs n m) (hR : RSo i n m) : SX N n nS nC fr tk p o i u sn un := by
  have fC : ∀ a, 80 ≤ a → a ≠ 90 → a ≠ 96 + 3 * i → a ≠ 96 + 3 * i + 1 → a ≠ 96 + 3 * i + 2 → N a = M a := hC.1
  refine hX.cg ?_ ?_ (fun j hj hji R h => h.cg ?_ ?_ ?_) (hC.2 12 (by omega) (by omega) (by omega) (by omega)) ?_ (hM.1 42 (by omega)) hit (fun j _ => by rw [hM.1 46 (by omega)]) (fun j _ => by rw [hM.1 47 (by omega)]) (hM.1 57 (by omega)) (hM.2 83 (by omega) (by omega) (by omega) (by omega) (by omega) (by omega) (by omega)) (hM.2 53 (by omega) (by omega) (by omega) (by omega) (by omega) (by omega) (by omega)) (hM.2 78 (by omega) (by omega) (by omega) (by omega) (by omega) (by omega) (by omega)) hR hM.ds ⟨fun a z1 z2 => fC a (by omega) (by omega) (by omega) (by omega) (by omega), fun a z1 z2 => hM.1 a (by omega), hM.2 85 (by omega) (by omega) (by omega) (by omega) (by omega) (by omega) (by omega), hM.2 0 (by omega) (by omega) (by omega) (by omega) (by omega) (by omega) (by omega)⟩
  · exact fC 93 (by omega) (by omega) (by omega) (by omega) (by omega)
  · exact fC 94 (by omega) (by omega) (by omega) (by omega) (by omega)
  · rw [fC _ (by omega) (by omega) (by omega) (by omega) (by omega)]
  · exact fC _ (by omega) (by omega) (by omega) (by omega) (by omega)
  · exact fC _ (by omega) (by omega) (by omega) (by omega) (by omega)
  · rw [fC 120 (by omega) (by omega) (by omega) (by omega) (by omega)]
/-- what is so of all seats -/
def SA (M m : Mem) (t u nS nL nC nO : Nat) (RR : Nat → List Row) (t0 dl fr c0 sc : Nat) (tk : Nat → Bool) (p o : Nat) (sn un : Nat → Nat) : Prop :=
  (∃ y, AB M (up m 0 55 y) t u nS nL nC nO RR t0 dl c0 sc) ∧ M 90 7 = nI o ∧ (M 120 9 = nI (mx3 tk sn) ∧ M 120 10 = nI (mn3 tk un u)) ∧ SX M m nS nC fr tk p o 3 u sn un
theorem close2 {opn : Bool} (hfu : 5000 ≤ fu) (hAB : AB N n t u nS nL nC nO RR t0 dl c0 sc) (hX : SX N n nS nC fr tk p o i u sn un) (hi : i < nS) (hit : tk i = false) (hA1 : RC N (96 + 3 * i) A) (hA2 : RS n i A) (hok : okR A) (h7 : N 90 7 = nI (ob o i opn)) (h9 : N 120 9 = nI (max (mx3 tk sn) f)) (h10 : N 120 10 = nI (min (mn3 tk un u) g)) (h46 : n 46 i = nI f) (h47 : n 47 i = nI g) (hf : f ≤ u) (hg : g ≤ u) (hh : h < 4) : ∃ N' n', f_X1_close fu (nI i) (nI h) N = some N' ∧ mk128 (nI i) (nI (h + if opn = true then 10 else 0)) n = some n' ∧ SA N' n' t u nS nL nC nO RR t0 dl fr c0 sc (setB tk i) (p + 1) (ob o i opn) (setN sn i f) (setN un i g) := by
  have hS3 := hAB.2.2.1.1.2
  have hi3 : i < 3 := by omega
  obtain ⟨⟨⟨t1, t2, t3⟩, t4, t5⟩, x0, x1, x2, x3, x4, x5, x6, x7, x8⟩ := (id hX)
  have hp3 : p < 3 := by
    have := cn3_set hi3 hit
    have hc : cn3 (setB tk i) ≤ 3 := by
      simp only [cn3]
      split <;> split <;> split <;> omega
    omega
  obtain ⟨P, k1, k2, k3⟩ := keepW_ok (a := 90) (fu := fu) hfu hAB.2.1 hAB.2.2.1 hi3 (by omega) hok (by rw [show 90 + 5 + 1 + 3 * i = 96 + 3 * i by omega]; exact hA1)
  rw [show 90 + 5 + 1 + 3 * i = 96 + 3 * i by omega] at k2 k3
  have P90 : P 90 = N 90 := k3 90 (by omega) (by omega) (by omega)
  have P12 : P 90 12 = nI p := by rw [P90]; exact t1
  have eC : f_X1_close fu (nI i) (nI h) N = some (up (up (up P 93 p (nI i)) 94 p (nI h)) 90 12 (nI (p + 1))) := by
    simp (disch := omega) only [f_X1_close, k1, bd_some, P12, inb_nI, grd_true, nI_clamp, nm_d, up_n, nI_1]
  have hbit := bits x3.2.1 hi3 opn (x3.2.2 i hi3 hit)
  have hx4 : (if nI (h + if opn = true then 10 else 0) < 10 then 0 else (1 <<< (nI i &&& 31)) : Int32) = (if opn = true then nI 1 <<< (nI i &&& nI 31) else nI 0) := by
    cases opn with
    | true =>
      have : ¬ (nI (h + 10) < (10 : Int32)) := by rw [lit, nI_ltI (by omega) (by omega)]; omega
      simp only [↓reduceIte, this]
      rfl
    | false =>
      have : (nI (h + 0) < (10 : Int32)) := by rw [lit, nI_ltI (by omega) (by omega)]; omega
      simp only [↓reduceIte, this, Bool.false_eq_true]
      rfl
  have hmod : (nI (h + if opn = true then 10 else 0) - nI (h + if opn = true then 10 else 0) / 10 * 10 : Int32) = nI h := by
    have hb : (h + if opn = true then 10 else 0) < 20 := by split <;> omega
    rw [lit, pk_rem (by omega) (by omega) (by omega)]
    congr 1
    split <;> omega
  have hor : (n 0 78 ||| (if opn = true then nI 1 <<< (nI i &&& nI 31) else nI 0) : Int32) = nI (ob o i opn) := by
    rw [x3.1]
    cases opn with
    | true => exact (bits x3.2.1 hi3 false (x3.2.2 i hi3 hit)).1
    | false => exact hbit.2.2.2.1
  have eM : mk128 (nI i) (nI (h + if opn = true then 10 else 0)) n = some (up (up (up (up n 42 i 1) 0 78 (nI (ob o i opn))) 57 p (nI (10 * i + h))) 0 83 (nI (p + 1))) := by
    have e10 : (10 * nI i + nI h : Int32) = nI (10 * i + h) := by rw [lit, pk_mul, nI_add]
    simp (disch := omega) only [mk128, inb_nI, grd_true, nI_clamp, nm_d, hx4, hmod, up_n, up_m, hor, t2, nI_1, e10]
  refine ⟨_, _, eC, eM, ?_⟩
  have fC : ∀ a, a ≠ 90 → a ≠ 93 → a ≠ 94 → a ≠ 96 + 3 * i → a ≠ 96 + 3 * i + 1 → a ≠ 96 + 3 * i + 2 → (up (up (up P 93 p (nI i)) 94 p (nI h)) 90 12 (nI (p + 1))) a = N a := fun a h1 h2 h3 h4 h5 h6 => by rw [up_n h1, up_n h3, up_n h2, k3 a h4 h5 h6]
  have fC90 : ∀ j, j ≠ 12 → (up (up (up P 93 p (nI i)) 94 p (nI h)) 90 12 (nI (p + 1))) 90 j = N 90 j := fun j hj => by rw [up_m hj, up_n (by omega), up_n (by omega), P90]
  have fM : ∀ a, a ≠ 0 → a ≠ 42 → a ≠ 57 → (up (up (up (up n 42 i 1) 0 78 (nI (ob o i opn))) 57 p (nI (10 * i + h))) 0 83 (nI (p + 1))) a = n a := fun a h1 h2 h3 => by rw [up_n h1, up_n h3, up_n h1, up_n h2]
  have fM0 : ∀ j, j ≠ 78 → j ≠ 83 → (up (up (up (up n 42 i 1) 0 78 (nI (ob o i opn))) 57 p (nI (10 * i + h))) 0 83 (nI (p + 1))) 0 j = n 0 j := fun j h1 h2 => by rw [up_m h2, up_n (by omega), up_m h1, up_n (by omega)]
  have fDS : DS (up (up (up (up n 42 i 1) 0 78 (nI (ob o i opn))) 57 p (nI (10 * i + h))) 0 83 (nI (p + 1))) n := ⟨fun a h1 h2 => fM a (by omega) (by omega) (by omega), fun j h1 h2 => fM0 j (by omega) (by omega)⟩
  have hrs : ∀ j A', RS n j A' → RS (up (up (up (up n 42 i 1) 0 78 (nI (ob o i opn))) 57 p (nI (10 * i + h))) 0 83 (nI (p + 1))) j A' := fun j A' hA => hA.cg (by rw [fM 43 (by omega) (by omega) (by omega)]) (fM 44 (by omega) (by omega) (by omega)) (fM 45 (by omega) (by omega) (by omega))
  have hrc : ∀ j A', j < 3 → j ≠ i → RC N (96 + 3 * j) A' → RC (up (up (up P 93 p (nI i)) 94 p (nI h)) 90 12 (nI (p + 1))) (96 + 3 * j) A' := fun j A' hj hji hA => hA.cg (by rw [fC _ (by omega) (by omega) (by omega) (by omega) (by omega) (by omega)]) (fC _ (by omega) (by omega) (by omega) (by omega) (by omega) (by omega)) (fC _ (by omega) (by omega) (by omega) (by omega) (by omega) (by omega))
  generalize hN' : up (up (up P 93 p (nI i)) 94 p (nI h)) 90 12 (nI (p + 1)) = N' at *
  generalize hn' : up (up (up (up n 42 i 1) 0 78 (nI (ob o i opn))) 57 p (nI (10 * i + h))) 0 83 (nI (p + 1)) = n' at *
  have hsB : ∀ j, setB tk i j = true ↔ j = i ∨ tk j = true := fun j => by simp only [setB]; split <;> simp_all
  have hsF : ∀ j, setB tk i j = false → j ≠ i ∧ tk j = false := fun j hj => by
    simp only [setB] at hj
    split at hj
    · cases hj
    · exact ⟨by assumption, hj⟩
  refine ⟨⟨n' 0 55, ?_⟩, by rw [fC90 7 (by omega)]; exact h7, ⟨by rw [fC 120 (by omega) (by omega) (by omega) (by omega) (by omega) (by omega), h9, mx3_set hi3 hit], by rw [fC 120 (by omega) (by omega) (by omega) (by omega) (by omega) (by omega), h10, mn3_set hi3 hit hg]⟩, ⟨⟨?_, ?_, by omega⟩, fun j hj => ?_, fun j hj => ?_⟩, by rw [cn3_set hi3 hit, x0], fun j hj => ?_, ⟨by rw [fC 120 (by omega) (by omega) (by omega) (by omega) (by omega) (by omega)]; exact x2.1, by rw [fM0 53 (by omega) (by omega)]; exact x2.2⟩, ⟨?_, hbit.2.2.2.2, fun j hj hjt => ?_⟩, fun j hj hj3 hjt => ?_, fun j hj hj3 hjt => ?_, fun x hx => ?_, fun j hj hjt => ?_, x8.1.cg ⟨fun a z1 z2 => fC a (by omega) (by omega) (by omega) (by omega) (by omega) (by omega), fun a z1 z2 => fM a (by omega) (by omega) (by omega), fM0 85 (by omega) (by omega)⟩, by rw [fM0 0 (by omega) (by omega)]; exact x8.2⟩
  · rw [up_self rfl]
    refine hAB.of (hAB.1.1.cg (fun a h1 h2 h3 => fC a (by omega) (by omega) (by omega) (by omega) (by omega) (by omega)) (fM0 7 (by omega) (by omega)) (fM0 8 (by omega) (by omega)) (fM0 39 (by omega) (by omega)) (fun a h1 h2 => fM a (by omega) (by omega) (by omega)) (fun a h1 h2 => fM a (by omega) (by omega) (by omega))) (Nat.le_refl _) ?_ (fun a ha => fC a (by omega) (by omega) (by omega) (by omega) (by omega) (by omega)) (fun a ha => fM a (by omega) (by omega) (by omega)) (fun j hj => fM0 j (by omega) (by omega)) (hAB.2.2.2.1.cg (fC 59 (by omega) (by omega) (by omega) (by omega) (by omega) (by omega)) (fM 18 (by omega) (by omega) (by omega)))
    obtain ⟨q1, q2, q3, q4, q5, q6, q7, q8⟩ := hAB.2.2.2.2.2.2.1
    exact ⟨by rw [fC 120 (by omega) (by omega) (by omega) (by omega) (by omega) (by omega)]; exact q1, by rw [fM0 52 (by omega) (by omega)]; exact q2, by rw [fM0 54 (by omega) (by omega)]; exact q3, by rw [fC90 9 (by omega)]; exact q4, by rw [fM0 80 (by omega) (by omega)]; exact q5, by rw [fM0 55 (by omega) (by omega)]; exact q6, by rw [fC90 10 (by omega), fM0 81 (by omega) (by omega)]; exact q7, by rw [fC90 11 (by omega), fM0 82 (by omega) (by omega)]; exact q8⟩
  · rw [← hN', up_s]
  · rw [← hn', up_s]
  · rw [← hn', up_n (by omega), up_n (by omega), up_n (by omega)]
    by_cases hji : j = i
    · subst hji; rw [up_s]; simp only [setB, ↓reduceIte]; rfl
    · rw [up_m hji, t4 j hj]; simp only [setB, hji, ↓reduceIte]
  · have e93 : N' 93 = upd (N 93) p (nI i) := by rw [← hN', up_n (by omega), up_n (by omega), up_r, k3 93 (by omega) (by omega) (by omega)]
    rw [e93]
    have ean : an (fun x => decide (upd (N 93) p (nI i) x = nI j)) (p + 1) = (tk j || decide (nI i = nI j)) := by
      simp only [an, pk_us]
      congr 1
      rw [← t5 j hj]
      have : ∀ q, q ≤ p → an (fun x => decide (upd (N 93) p (nI i) x = nI j)) q = an (fun x => decide (N 93 x = nI j)) q := by
        intro q
        induction q with
        | zero => intro _; rfl
        | succ q ih => intro hq; simp only [an, ih (by omega), pk_un (show q ≠ p by omega)]
      exact this p (Nat.le_refl _)
    rw [ean]
    have e : (nI i = nI j) = (i = j) := propext (nI_eq (by omega) (by omega))
    simp only [e, setB]
    by_cases hji : j = i
    · subst hji; simp
    · have : ¬ i = j := fun h => hji h.symm
      simp [hji, this]
  · rcases (hsB j).mp hj with rfl | hj'
    · exact hi
    · exact x1 j hj'
  · rw [← hn', up_m (by omega), up_n (by omega), up_s]
  · obtain ⟨z1, z2⟩ := hsF j hjt
    have hb := x3.2.2 j hj z2
    have hb2 : ∀ (o : Fin 8) (i j : Fin 3), o.val.testBit j.val = false → o.val.testBit i.val = false → j ≠ i → (ob o i true).testBit j.val = false := by decide +kernel
    cases opn with
    | false => exact hb
    | true => exact hb2 ⟨o, x3.2.1⟩ ⟨i, hi3⟩ ⟨j, hj⟩ hb (x3.2.2 i hi3 hit) (fun h => z1 (Fin.val_eq_of_eq h))
  · obtain ⟨z1, z2⟩ := hsF j hjt
    exact hrc j _ hj z1 (x4 j hj z1 z2)
  · rw [fDS.cA]
    by_cases hji : j = i
    · subst hji
      refine ⟨A, hrs j A hA2, hok, ?_⟩
      rw [← hN']
      exact k2.cg (by rw [up_n (by omega), up_n (by omega), up_n (by omega)]) (by rw [up_n (by omega), up_n (by omega), up_n (by omega)]) (by rw [up_n (by omega), up_n (by omega), up_n (by omega)])
    · have hjt' : tk j = true := by
        rcases (hsB j).mp hjt with h | h
        · exact absurd h hji
        · exact h
      obtain ⟨A', a1, a2, a3⟩ := x5 j hj hji hjt'
      exact ⟨A', hrs j A' a1, a2, hrc j _ hj hji a3⟩
  · have e93 : N' 93 = upd (N 93) p (nI i) := by rw [← hN', up_n (by omega), up_n (by omega), up_r, k3 93 (by omega) (by omega) (by omega)]
    have e94 : N' 94 = upd (N 94) p (nI h) := by rw [← hN', up_n (by omega), up_r, up_n (by omega), k3 94 (by omega) (by omega) (by omega)]
    have e57 : n' 57 = upd (n 57) p (nI (10 * i + h)) := by rw [← hn', up_n (by omega), up_r, up_n (by omega), up_n (by omega)]
    rw [e93, e94, e57]
    by_cases hxp : x = p
    · subst hxp
      exact ⟨i, h, hi3, hh, pk_us, pk_us, pk_us⟩
    · rw [pk_un hxp, pk_un hxp, pk_un hxp]
      exact x6 x (by omega)
  · rw [fM 46 (by omega) (by omega) (by omega), fM 47 (by omega) (by omega) (by omega)]
    by_cases hji : j = i
    · subst hji
      simp only [setN, ↓reduceIte]
      exact ⟨h46, h47, hf, hg⟩
    · have hjt' : tk j = true := by
        rcases (hsB j).mp hjt with h | h
        · exact absurd h hji
        · exact h
      simp only [setN, hji, ↓reduceIte]
      exact x7 j hj hjt'
end Take
