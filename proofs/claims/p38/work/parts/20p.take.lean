/-! ===== a seat is taken: the law and the reference ===== -/
def FLk (i : Nat) (N M : Mem) : Prop := (∀ a, a ≠ 145 → a ≠ 147 → a ≠ 148 → a ≠ 149 → a ≠ 150 → a ≠ 151 → a ≠ 152 → a ≠ 153 → a ≠ 157 → N a = M a) ∧ (∀ j, j ≠ 1 → j ≠ 3 → j ≠ 7 → j ≠ 8 → j ≠ 9 → j ≠ 13 → j ≠ 14 → N 152 j = M 152 j) ∧ (∀ j, 6 ≤ j → N 153 j = M 153 j) ∧ ∀ j, (j < 4 * i ∨ 4 * i + 4 ≤ j) → N 151 j = M 151 j
def FMj (i : Nat) (n m : Mem) : Prop := (∀ a, (1 ≤ a ∧ a ≤ 5) ∨ a = 17 ∨ (19 ≤ a ∧ a ≤ 29) ∨ a = 42 ∨ 49 ≤ a → n a = m a) ∧ (∀ j, j ≠ i → n 46 j = m 46 j ∧ n 47 j = m 47 j) ∧ ∀ j, j ≠ 8 → j ≠ 39 → j ≠ 55 → j ≠ 62 → j ≠ 63 → j ≠ 80 → j ≠ 81 → j ≠ 82 → n 0 j = m 0 j
def FMk (i : Nat) (n m : Mem) : Prop := (∀ a, (1 ≤ a ∧ a ≤ 5) ∨ a = 17 ∨ (19 ≤ a ∧ a ≤ 29) ∨ (49 ≤ a ∧ a ≠ 57) → n a = m a) ∧ (∀ j, j ≠ i → n 46 j = m 46 j ∧ n 47 j = m 47 j) ∧ ∀ j, j ≠ 8 → j ≠ 39 → j ≠ 55 → j ≠ 62 → j ≠ 63 → j ≠ 78 → j ≠ 80 → j ≠ 81 → j ≠ 82 → j ≠ 83 → n 0 j = m 0 j
def tkS (fu : Nat) (p12 : Int32) : Mem → Option Mem := fun (M_18 : Mem) => grd (inb (4 * p12) 12) (nm (up M_18 151 (4 * p12).toNatClampNeg 3) (fun M_20 => bm (f_L_scan fu p12 M_20) (fun r_22 M_23 => nm ((if r_22 = 0 then 0 else 1) : Int32) (fun v_25 => grd (inb ((4 * p12) + 1) 12) (nm (up M_23 151 ((4 * p12) + 1).toNatClampNeg v_25) (fun M_27 => some M_27))))))
def tkK (fu : Nat) (p12 x14_3 v_33 v_35 v_37 x17_16 : Int32) (M_9 : Mem) : Option Mem := if (f_L_done x14_3 v_33 0) = 0 then tkS fu p12 M_9 else grd (inb (6 + v_35) 43) (grd (inb (8 + (M_9 146 (6 + v_35).toNatClampNeg)) 14) ((if (((M_9 153 (8 + (M_9 146 (6 + v_35).toNatClampNeg)).toNatClampNeg) >>> (x14_3 &&& 31)) &&& 1) = 0 then grd (e3 M_9) (f_L_take_L351 fu v_35 v_37 (fun (x23_47 : Int32) (M_48 : Mem) => (if x17_16 ≤ ((((x23_47 + 3) / 4) * (f_L_fee x14_3)) + (x23_47 * (f_L_freight x14_3))) then grd (e3 M_48) (tkS fu p12 M_48) else bd (f_L_bind fu x23_47 p12 v_33 x17_16 M_48) (fun M_54 => grd (e3 M_54) (some M_54)))) fu 0 (-999) (row M_9 157 (fun _ => 0))) else tkS fu p12 M_9)))
def tkL (fu : Nat) (p12 x14_3 r_11 x17_16 : Int32) (M_9 : Mem) : Option Mem := if r_11 < 0 then tkS fu p12 M_9 else grd (inb (9 + (4 * r_11)) 43) (if M_9 146 (9 + (4 * r_11)).toNatClampNeg = p12 then grd (inb (10 + (4 * r_11)) 43) (grd (inb (11 + (4 * r_11)) 43) (grd (inb (12 + (4 * r_11)) 43) (tkK fu p12 x14_3 (M_9 146 (10 + (4 * r_11)).toNatClampNeg) (M_9 146 (11 + (4 * r_11)).toNatClampNeg) (M_9 146 (12 + (4 * r_11)).toNatClampNeg) x17_16 M_9))) else grd (inb (12 + (4 * r_11)) 43) (grd (inb (10 + (4 * r_11)) 43) (tkK fu p12 x14_3 (M_9 146 (12 + (4 * r_11)).toNatClampNeg) (M_9 146 (9 + (4 * r_11)).toNatClampNeg) (M_9 146 (10 + (4 * r_11)).toNatClampNeg) x17_16 M_9)))
def tkN (fu : Nat) (p12 x13_2 : Int32) (M_6 : Mem) : Option Mem := bd (f_L_right fu p12 x13_2 (M_6 152 0) M_6) (fun M_9 => bd (f_L_linkOf fu p12 M_9) (fun r_11 => bd (f_L_guess fu p12 M_9) (fun r_15 => tkL fu p12 (x13_2 / 2) r_11 ((f_L_fee (x13_2 / 2)) + ((f_L_freight (x13_2 / 2)) * r_15)) M_9)))
def tkE (fu : Nat) (p12 x13_2 r_5 : Int32) (M_6 : Mem) : Option Mem := grd (inb ((8 * r_5) + 3) 48) (grd (inb p12 3) (f_L_take_L58 fu p12 r_5 (fun (M_95 : Mem) => grd (inb (4 * p12) 12) (nm (up M_95 151 (4 * p12).toNatClampNeg 0) (fun M_97 => grd (inb ((4 * p12) + 1) 12) (nm (up M_97 151 ((4 * p12) + 1).toNatClampNeg 0) (fun M_99 => grd (inb ((8 * r_5) + 2) 48) (bd (f_L_right fu p12 x13_2 (M_99 147 ((8 * r_5) + 2).toNatClampNeg) M_99) (fun M_102 => some M_102))))))) fu 0 (up M_6 150 p12.toNatClampNeg (M_6 147 ((8 * r_5) + 3).toNatClampNeg))))
section TakeL
variable {fu t u i j s o c p g a b nS nL nC nO : Nat} {M m N n P q : Mem} {A : List Row} {RR : Nat → List Row} {tk : Nat → Bool} {opn : Bool} {h : Nat}
theorem tkSplit {p12 : Int32} : f_L_take fu p12 M = grd (inb (6 + p12) 43) (bd (f_L_entry fu p12 M) (fun r_5 => if r_5 < 0 then tkN fu p12 (M 146 (6 + p12).toNatClampNeg) (up M 152 13 0) else tkE fu p12 (M 146 (6 + p12).toNatClampNeg) r_5 (up M 152 13 0))) := by
  unfold f_L_take tkN tkE
  simp only [nm_d]
  congr 1
  congr 1
  funext r_5
  congr 1
  congr 1
  funext M_9
  congr 1
  funext r_11
  congr 1
  funext r_15
  unfold tkL
  simp only [jn_d]
  congr 1
  congr 1
  by_cases hz : M_9 146 (9 + 4 * r_11).toNatClampNeg = p12
  · simp only [hz, if_true]
    rfl
  · simp only [hz, if_false]
    rfl
theorem AL.md (h : AL M m t u nS nL nC nO RR) (f : ∀ a, 1 ≤ a → a ≤ 41 → n a = m a) (g : ∀ j, j = 7 ∨ j = 8 ∨ (22 ≤ j ∧ j ≤ 39) ∨ (52 ≤ j ∧ j ≤ 55) ∨ (80 ≤ j ∧ j ≤ 82) → n 0 j = m 0 j) : AL M n t u nS nL nC nO RR :=
  h.of (h.1.1.cg rfl rfl rfl ⟨rfl, rfl, rfl⟩ (g 7 (by omega)) (g 8 (by omega)) (g 39 (by omega)) (f 5 (by omega) (by omega)) (fun a _ _ => f a (by omega) (by omega)) (f 10 (by omega) (by omega))) (h.1.2.1.cg rfl (fun a _ _ => f a (by omega) (by omega))) (h.1.2.2.1.cg (fun a _ => f a (by omega) (by omega))) (h.1.2.2.2.cg ⟨rfl, rfl, rfl, rfl, rfl, rfl, rfl⟩ (fun j _ => g j (by omega))) (h.2.2.2.1.cg (fun _ _ => rfl) (f 18 (by omega) (by omega))) rfl rfl rfl (fun _ _ => rfl) (fun a _ => f a (by omega) (by omega)) (fun j _ _ => g j (by omega))
theorem FLk.rfl : FLk i M M := ⟨fun _ _ _ _ _ _ _ _ _ _ => Eq.refl _, fun _ _ _ _ _ _ _ _ => Eq.refl _, fun _ _ => Eq.refl _, fun _ _ => Eq.refl _⟩
theorem FLk.trans (h : FLk i N P) (h' : FLk i P M) : FLk i N M := ⟨fun a h1 h2 h3 h4 h5 h6 h7 h8 h9 => by rw [h.1 a h1 h2 h3 h4 h5 h6 h7 h8 h9, h'.1 a h1 h2 h3 h4 h5 h6 h7 h8 h9], fun j h1 h2 h3 h4 h5 h6 h7 => by rw [h.2.1 j h1 h2 h3 h4 h5 h6 h7, h'.2.1 j h1 h2 h3 h4 h5 h6 h7], fun j h1 => by rw [h.2.2.1 j h1, h'.2.2.1 j h1], fun j h1 => by rw [h.2.2.2 j h1, h'.2.2.2 j h1]⟩
theorem FLb.fk (h : FLb i N M) : FLk i N M := ⟨fun a h1 h2 h3 h4 h5 h6 h7 h8 _ => h.1 a h1 h2 h3 h4 h5 h6 h7 h8, h.2.1, h.2.2.1, fun j hj => h.2.2.2 j (by omega) (by omega)⟩
theorem FLk.up {x : Nat} {v : Int32} (hx : 4 * i ≤ x ∧ x < 4 * i + 4) : FLk i (up M 151 x v) M := ⟨fun a _ _ _ _ _ h _ _ _ => up_n h, fun j _ _ _ _ _ _ _ => by rw [up_n (by omega)], fun j _ => by rw [up_n (by omega)], fun j h1 => up_m (by omega)⟩
theorem FMj.rfl : FMj i m m := ⟨fun _ _ => Eq.refl _, fun _ _ => ⟨Eq.refl _, Eq.refl _⟩, fun _ _ _ _ _ _ _ _ _ => Eq.refl _⟩
theorem FMj.trans (h : FMj i n q) (h' : FMj i q m) : FMj i n m := ⟨fun a h1 => by rw [h.1 a h1, h'.1 a h1], fun j hj => by rw [(h.2.1 j hj).1, (h.2.1 j hj).2]; exact h'.2.1 j hj, fun j h1 h2 h3 h4 h5 h6 h7 h8 => by rw [h.2.2 j h1 h2 h3 h4 h5 h6 h7 h8, h'.2.2 j h1 h2 h3 h4 h5 h6 h7 h8]⟩
theorem FMs.fj (h : FMs n m) : FMj i n m := ⟨fun a ha => h.1 a (by omega), fun j _ => ⟨by rw [h.1 46 (by omega)], by rw [h.1 47 (by omega)]⟩, fun j h1 h2 h3 h4 _ h6 h7 h8 => h.2 j h1 h2 h3 h4 h6 h7 h8⟩
theorem e3_cg (h : N 3 = M 3) : e3 N = e3 M := by unfold e3; rw [h]
theorem mk128_ex (hi3 : i < 3) (h83 : n 0 83 = nI p) (hp3 : p < 3) (h78 : n 0 78 = nI o) (ho : o < 8) (hbit : o.testBit i = false) (hh : h < 4) : mk128 (nI i) (nI (h + if opn = true then 10 else 0)) n = some (up (up (up (up n 42 i 1) 0 78 (nI (ob o i opn))) 57 p (nI (10 * i + h))) 0 83 (nI (p + 1))) := by
  have hx4 : (if nI (h + if opn = true then 10 else 0) < 10 then 0 else (1 <<< (nI i &&& 31)) : Int32) = (if opn = true then nI 1 <<< (nI i &&& nI 31) else nI 0) := by
    cases opn with
    | true =>
      have : ¬ (nI (h + 10) < (10 : Int32)) := by rw [lit, nI_ltI (by omega) (by omega)]; omega
      simp only [↓reduceIte, this]
      rfl
    | false =>
      have : (nI (h + 0) < (10 : Int32)) := by rw [lit, nI_ltI (by omega) (by omega)]; omega
      simp only [↓reduceIte, this, Bool.false_eq_true]
      rfl
  have hmod : (nI (h + if opn = true then 10 else 0) - nI (h + if opn = true then 10 else 0) / 10 * 10 : Int32) = nI h := by
    have hb : (h + if opn = true then 10 else 0) < 20 := by split <;> omega
    rw [lit, pk_rem (by omega) (by omega) (by omega)]
    congr 1
    split <;> omega
  have hor : (n 0 78 ||| (if opn = true then nI 1 <<< (nI i &&& nI 31) else nI 0) : Int32) = nI (ob o i opn) := by
    rw [h78]
    cases opn with
    | true => exact (bits ho hi3 false hbit).1
    | false => exact (bits ho hi3 false hbit).2.2.2.1
  have e10 : (10 * nI i + nI h : Int32) = nI (10 * i + h) := by rw [lit, pk_mul, nI_add]
  simp (disch := omega) only [mk128, inb_nI, grd_true, nI_clamp, nm_d, hx4, hmod, up_n, up_m, hor, h83, nI_1, e10]
/-- what a seat that is taken leaves -/
def TKD (N n M m : Mem) (t t' u i p o nS nL nC nO : Nat) (RR : Nat → List Row) : Prop := ∃ A h opn a b, t ≤ t' ∧ t' ≤ t + 480 ∧ AL N n t' u nS nL nC nO RR ∧ SL N n i A ∧ SLo i N n M m ∧ h < 4 ∧ N 151 (4 * i) = nI h ∧ N 151 (4 * i + 1) = bI opn ∧ (a ≤ u ∧ b ≤ u ∧ N 151 (4 * i + 2) = nI a ∧ N 151 (4 * i + 3) = nI b ∧ n 46 i = nI a ∧ n 47 i = nI b) ∧ FLk i N M ∧ n 42 = upd (m 42) i 1 ∧ n 57 = upd (m 57) p (nI (10 * i + h)) ∧ n 0 78 = nI (ob o i opn) ∧ n 0 83 = nI (p + 1) ∧ FMk i n m
theorem takeFin {t' : Nat} (hi3 : i < 3) (h83 : m 0 83 = nI p) (hp3 : p < 3) (h78 : m 0 78 = nI o) (ho : o < 8) (hbit : o.testBit i = false) (hh : h < 4) (ht : t ≤ t' ∧ t' ≤ t + 480) (hAL : AL N q t' u nS nL nC nO RR) (hA : SL N q i A) (hSLo : SLo i N q M m) (q1 : N 151 (4 * i) = nI h) (q2 : N 151 (4 * i + 1) = bI opn) (q3 : N 151 (4 * i + 2) = nI a) (q4 : N 151 (4 * i + 3) = nI b) (ha : a ≤ u) (hb : b ≤ u) (q5 : q 46 i = nI a) (q6 : q 47 i = nI b) (hFL : FLk i N M) (hFM : FMj i q m) : ∃ n, mk128 (nI i) (nI (h + if opn = true then 10 else 0)) q = some n ∧ TKD N n M m t t' u i p o nS nL nC nO RR := by
  have e78 : q 0 78 = nI o := by rw [hFM.2.2 78 (by omega) (by omega) (by omega) (by omega) (by omega) (by omega) (by omega) (by omega)]; exact h78
  have e83 : q 0 83 = nI p := by rw [hFM.2.2 83 (by omega) (by omega) (by omega) (by omega) (by omega) (by omega) (by omega) (by omega)]; exact h83
  let n := up (up (up (up q 42 i 1) 0 78 (nI (ob o i opn))) 57 p (nI (10 * i + h))) 0 83 (nI (p + 1))
  have no : ∀ a, a ≠ 0 → a ≠ 42 → a ≠ 57 → n a = q a := fun a z1 z2 z3 => by
    show up (up (up (up q _ _ _) _ _ _) _ _ _) _ _ _ a = _
    rw [up_n z1, up_n z3, up_n z1, up_n z2]
  have n0 : ∀ j, j ≠ 78 → j ≠ 83 → n 0 j = q 0 j := fun j z1 z2 => by
    show up (up (up (up q _ _ _) _ _ _) _ _ _) _ _ _ 0 j = _
    rw [up_m z2, up_n (by omega), up_m z1, up_n (by omega)]
  refine ⟨n, mk128_ex hi3 e83 hp3 e78 ho hbit hh, A, h, opn, a, b, ht.1, ht.2, hAL.md (fun a _ _ => no a (by omega) (by omega) (by omega)) (fun j _ => n0 j (by omega) (by omega)), hA.cg rfl rfl (no 43 (by omega) (by omega) (by omega)) (no 44 (by omega) (by omega) (by omega)) (no 45 (by omega) (by omega) (by omega)), SLo.trans (SLo.of rfl rfl (no 43 (by omega) (by omega) (by omega)) (no 44 (by omega) (by omega) (by omega)) (no 45 (by omega) (by omega) (by omega))) hSLo, hh, q1, q2, ⟨ha, hb, q3, q4, by rw [no 46 (by omega) (by omega) (by omega)]; exact q5, by rw [no 47 (by omega) (by omega) (by omega)]; exact q6⟩, hFL, ?_, ?_, ?_, ?_, ⟨fun a z => by rw [no a (by omega) (by omega) (by omega)]; exact hFM.1 a (by omega), fun j hj => by rw [no 46 (by omega) (by omega) (by omega), no 47 (by omega) (by omega) (by omega)]; exact hFM.2.1 j hj, fun j z1 z2 z3 z4 z5 z6 z7 z8 z9 z10 => by rw [n0 j z6 z10]; exact hFM.2.2 j z1 z2 z3 z4 z5 z7 z8 z9⟩⟩
  · show up (up (up (up q _ _ _) _ _ _) _ _ _) _ _ _ 42 = _
    rw [up_n (by omega), up_n (by omega), up_n (by omega), up_r, hFM.1 42 (by omega)]
  · show up (up (up (up q _ _ _) _ _ _) _ _ _) _ _ _ 57 = _
    rw [up_n (by omega), up_r, up_n (by omega), up_n (by omega), hFM.1 57 (by omega)]
  · show up (up (up (up q _ _ _) _ _ _) _ _ _) _ _ _ 0 78 = _
    rw [up_m (by omega), up_n (by omega), up_s]
  · show up (up (up (up q _ _ _) _ _ _) _ _ _) _ _ _ 0 83 = _
    rw [up_s]
/-- no entry serves: what ends it -/
theorem takeNow {t' : Nat} (hi3 : i < 3) (hs : q 19 i = nI s) (hs6 : s < 6) (h83 : m 0 83 = nI p) (hp3 : p < 3) (h78 : m 0 78 = nI o) (ho : o < 8) (hbit : o.testBit i = false) (hh : h < 4) (ht : t ≤ t' ∧ t' ≤ t + 480) (hAL : AL N q t' u nS nL nC nO RR) (hA : SL N q i A) (hSLo : SLo i N q M m) (q1 : N 151 (4 * i) = nI h) (q2 : N 151 (4 * i + 1) = bI opn) (q3 : N 151 (4 * i + 2) = nI a) (q4 : N 151 (4 * i + 3) = nI u) (ha : a ≤ u) (q5 : q 5 s = nI a) (hFL : FLk i N M) (hFM : FMj i q m) : ∃ n, mk101 (nI i) (nI (h + if opn = true then 10 else 0)) q = some n ∧ TKD N n M m t t' u i p o nS nL nC nO RR := by
  have hu : q 0 7 = nI u := hAL.1.1.1.2.2
  rw [mk101_eq hi3 hs hs6 hu]
  have o1 : ∀ x, x ≠ 46 → x ≠ 47 → up (up q 46 i (q 5 s)) 47 i (nI u) x = q x := fun x z1 z2 => by rw [up_n z2, up_n z1]
  exact takeFin (M := M) (A := A) (a := a) (b := u) hi3 h83 hp3 h78 ho hbit hh ht (hAL.md (fun a _ _ => o1 a (by omega) (by omega)) (fun j _ => by rw [o1 0 (by omega) (by omega)])) (hA.cg rfl rfl (o1 43 (by omega) (by omega)) (o1 44 (by omega) (by omega)) (o1 45 (by omega) (by omega))) (SLo.trans (SLo.of rfl rfl (o1 43 (by omega) (by omega)) (o1 44 (by omega) (by omega)) (o1 45 (by omega) (by omega))) hSLo) q1 q2 q3 q4 ha (Nat.le_refl _) (by rw [up_n (by omega), up_s]; exact q5) up_s hFL (FMj.trans ⟨fun a _ => o1 a (by omega) (by omega), fun j hj => ⟨by rw [up_n (by omega), up_m hj], by rw [up_m hj, up_n (by omega)]⟩, fun j _ _ _ _ _ _ _ _ => by rw [o1 0 (by omega) (by omega)]⟩ hFM)
theorem takeScan (hfu : 5000 ≤ fu) (hi : i < nS) (hs : q 19 i = nI s) (hs6 : s < 6) (h83 : m 0 83 = nI p) (hp3 : p < 3) (h78 : m 0 78 = nI o) (ho : o < 8) (hbit : o.testBit i = false) (ht : t + 120 < 2 ^ 27) (hAL : AL P q t u nS nL nC nO RR) (hSLo : SLo i P q M m) (q3 : P 151 (4 * i + 2) = nI a) (q4 : P 151 (4 * i + 3) = nI u) (ha : a ≤ u) (q5 : q 5 s = nI a) (hFL : FLk i P M) (hFM : FMj i q m) : ∃ N n t', tkS fu (nI i) P = some N ∧ mk83 fu (nI i) q = some n ∧ TKD N n M m t t' u i p o nS nL nC nO RR := by
  have hS3 := hAL.2.1.2.1.2
  have i3 : i < 3 := by omega
  have e41 : (4 : Int32) * nI i + 1 = nI (4 * i + 1) := by rw [show (4 : Int32) = nI 4 from rfl, pk_mul, nI_1]
  have e4 : (4 : Int32) * nI i = nI (4 * i) := pk_mul 4 i
  let P1 := up P 151 (4 * i) 3
  obtain ⟨N, n, A2, opn, t', y1, y2, ⟨y3, y4⟩, y5, y6, y7, y8, y9⟩ := scan_L (M := P1) (m := q) hfu (hAL.l (fun a ha => up_n (by omega))) hi ht
  let N5 := up N 151 (4 * i + 1) (bI opn)
  have z151 : N 151 = P1 151 := y7.1 151 (by omega) (by omega) (by omega) (by omega) (by omega) (by omega) (by omega)
  have hFL5 : FLk i N5 M := (FLk.up (by omega)).trans (y7.fb.fk.trans ((FLk.up (by omega)).trans hFL))
  obtain ⟨n', g1, g2⟩ := takeNow (M := M) (N := N5) (q := n) (A := A2) (a := a) (h := 3) (opn := opn) (t' := t') (t := t) i3 (by rw [y8.1 19 (by omega)]; exact hs) hs6 h83 hp3 h78 ho hbit (by omega) ⟨y3, by omega⟩ (y5.l (fun a ha => up_n (by omega))) (y6.cg (up_n (by omega)) (up_n (by omega)) rfl rfl rfl) (SLo.trans (SLo.of (up_n (by omega)) (up_n (by omega)) rfl rfl rfl) (y9.trans (SLo.trans (SLo.of (up_n (by omega)) (up_n (by omega)) rfl rfl rfl) hSLo)))
    (by show up N 151 _ _ 151 (4 * i) = _; rw [up_m (by omega), z151]; exact up_s) up_s (by show up N 151 _ _ 151 (4 * i + 2) = _; rw [up_m (by omega), z151]; show up P 151 _ _ 151 (4 * i + 2) = _; rw [up_m (by omega)]; exact q3) (by show up N 151 _ _ 151 (4 * i + 3) = _; rw [up_m (by omega), z151]; show up P 151 _ _ 151 (4 * i + 3) = _; rw [up_m (by omega)]; exact q4) ha (by rw [y8.1 5 (by omega)]; exact q5) hFL5 (y8.fj.trans hFM)
  refine ⟨N5, n', t', ?_, ?_, g2⟩
  · simp only [tkS, nm_d, e4, nI_1]
    rw [inb_nI (by omega) (by omega), grd_true, nI_clamp (by omega), show up P 151 (4 * i) 3 = P1 from rfl, y1, bm_some, inb_nI (by omega) (by omega), grd_true, nI_clamp (by omega)]
    have : (if bI opn = 0 then (0 : Int32) else 1) = bI opn := by cases opn <;> decide
    rw [this]
  · simp only [mk83, nm_d, y2, bm_some]
    have : (3 + (if bI opn = 0 then (0 : Int32) else 10)) = nI (3 + if opn = true then 10 else 0) := by cases opn <;> decide
    rw [this]
    exact g1
end TakeL
