def f_X10_isNumber (p0 : Int32) : Int32 :=
  (if p0 = 5000 then 0 else (if p0 = 5001 then 0 else 1))
def f_X10_holdsFor (p0 : Int32) (p1 : Int32) (p2 : Int32) : Int32 :=
  (if p0 = 0 then (if p2 = p1 then 1 else 0) else (if p0 = 1 then (if (f_X10_isNumber p2) = 0 then 0 else (if p1 ≤ p2 then 0 else 1)) else (if p0 = 2 then (if (f_X10_isNumber p2) = 0 then 0 else (if p2 ≤ p1 then 0 else 1)) else (if p0 = 3 then (if p2 = 5000 then 1 else 0) else (if p2 = 5001 then 1 else 0)))))
def f_X0_rank (p0 : Int32) : Int32 :=
  (if p0 = 5001 then (-1001) else (if p0 = 5000 then (-1000) else p0))
def f_X10_storeOf (p0 : Int32) : Int32 :=
  (p0 / 2)
def f_X10_canDo (p0 : Int32) (p1 : Int32) (p2 : Int32) : Int32 :=
  (if p0 = 0 then (if p2 = 4 then 0 else 1) else (if p0 = 1 then (if p1 = 0 then (if 2 < p2 then 0 else 1) else 0) else (if p2 = 0 then 1 else (if p2 = 4 then 1 else (if p1 = 0 then (if 2 < p2 then 0 else 1) else 0)))))
def f_X10_follows (p0 : Int32) (p1 : Int32) (p2 : Int32) (p3 : Int32) : Int32 :=
  jn (fun (_ : Unit) => (if p0 = 1 then jn (fun (_ : Unit) => (if p2 = 0 then (if p1 ≤ p3 then 0 else 1) else 0)) (fun k27_9 => (if p2 = 1 then (if p3 ≤ p1 then 1 else k27_9 ()) else k27_9 ())) else (if p0 = 2 then jn (fun (_ : Unit) => (if p2 = 0 then (if p3 ≤ p1 then 0 else 1) else 0)) (fun k57_4 => (if p2 = 2 then (if p1 ≤ p3 then 1 else k57_4 ()) else k57_4 ())) else 0))) (fun k12_1 => (if p0 = p2 then (if p1 = p3 then 1 else k12_1 ()) else k12_1 ()))
def f_X10_columnsIn (p0 : Int32) : Int32 :=
  (if p0 = 1 then 2 else 4)
def f_X10_isKeyColumn (p0 : Int32) (p1 : Int32) : Int32 :=
  (if p1 = 0 then (if p0 = 0 then 0 else 1) else 0)
def f_X10_isIn (p0 : Int32) (p1 : Int32) (p2 : Int32) : Int32 :=
  (if p0 < p1 then 0 else (if p2 < p0 then 0 else 1))
def f_X10_cellFits (p0 : Int32) (p1 : Int32) (p2 : Int32) : Int32 :=
  (if p1 < (f_X10_columnsIn p0) then (if (f_X10_isKeyColumn p0 p1) = 0 then (if p2 = 5001 then (if p0 = 2 then 1 else 0) else (if p2 = 5000 then 1 else (if (f_X10_isIn p2 (-999) 999) = 0 then 0 else 1))) else (f_X10_isIn p2 0 99)) else (if p2 = 0 then 1 else 0))
def f_X10_rowFits (p0 : Int32) (p1 : Int32) (p2 : Int32) (p3 : Int32) (p4 : Int32) : Int32 :=
  (if (f_X10_cellFits p0 0 p1) = 0 then 0 else (if (f_X10_cellFits p0 1 p2) = 0 then 0 else (if (f_X10_cellFits p0 2 p3) = 0 then 0 else (if (f_X10_cellFits p0 3 p4) = 0 then 0 else 1))))
def f_X10_mayChangeTo (p0 : Int32) (p1 : Int32) (p2 : Int32) : Int32 :=
  (if (f_X10_isKeyColumn p0 p1) = 0 then (if (f_X10_cellFits p0 p1 p2) = 0 then 0 else 1) else 0)
def f_X10_isCondition (p0 : Int32) (p1 : Int32) : Int32 :=
  jn (fun (_ : Unit) => (if p1 = 0 then 1 else 0)) (fun k10_1 => (if p0 = 3 then k10_1 () else (if p0 = 4 then k10_1 () else (if (f_X10_isIn p0 0 2) = 0 then 0 else (if (f_X10_isIn p1 (-999) 999) = 0 then 0 else 1)))))
def f_X10_isStep (p0 : Int32) (p1 : Int32) (p2 : Int32) (p3 : Int32) : Int32 :=
  (if p0 = 0 then 1 else (if p0 = 1 then (if p3 = 0 then 1 else 0) else (if p0 = 2 then (if p1 = 0 then (if p2 = 0 then (if p3 = 0 then 1 else 0) else 0) else 0) else 0)))
def f_X11_in (p0 : Int32) (p1 : Int32) (p2 : Int32) : Int32 :=
  (if p0 < p1 then 0 else (if p2 < p0 then 0 else 1))
def f_X11_isSource (p0 : Int32) : Int32 :=
  (f_X11_in p0 0 5)
def f_X11_isStore (p0 : Int32) : Int32 :=
  (f_X11_in p0 0 2)
def f_X11_storeOf (p0 : Int32) : Int32 :=
  (p0 / 2)
def f_X11_isColumn (p0 : Int32) (p1 : Int32) : Int32 :=
  nm ((if (f_X11_storeOf p0) = 1 then 1 else 3) : Int32) (fun v_2 => (f_X11_in p1 0 v_2))
def f_X11_isNumber (p0 : Int32) : Int32 :=
  (f_X11_in p0 (-999) 999)
def f_X11_isCell (p0 : Int32) (p1 : Int32) (p2 : Int32) : Int32 :=
  (if (f_X11_isColumn p0 p1) = 0 then (if p2 = 0 then 1 else 0) else jn (fun (_ : Unit) => (if (f_X11_isNumber p2) = 0 then (if p2 = 5000 then 1 else (if p2 = 5001 then (if p0 ≤ 3 then 0 else 1) else 0)) else 1)) (fun k35_2 => (if p0 ≤ 1 then k35_2 () else (if p1 = 0 then (f_X11_in p2 0 99) else k35_2 ()))))
def f_X11_holds (p0 : Int32) (p1 : Int32) (p2 : Int32) : Int32 :=
  (if p0 = 0 then (if (f_X11_isNumber p2) = 0 then 0 else (if p2 = p1 then 1 else 0)) else (if p0 = 1 then (if (f_X11_isNumber p2) = 0 then 0 else (if p1 ≤ p2 then 0 else 1)) else (if p0 = 2 then (if (f_X11_isNumber p2) = 0 then 0 else (if p2 ≤ p1 then 0 else 1)) else (if p0 = 3 then (if p2 = 5000 then 1 else 0) else (if p2 = 5001 then 1 else 0)))))
def f_X11_canDo (p0 : Int32) (p1 : Int32) (p2 : Int32) : Int32 :=
  (if p0 = 0 then (if p2 = 4 then 0 else 1) else (if p0 = 1 then (if p1 = 0 then (if 2 < p2 then 0 else 1) else 0) else (if p2 = 0 then 1 else (if p2 = 4 then 1 else (if p1 = 0 then (if 2 < p2 then 0 else 1) else 0)))))
def f_X11_follows (p0 : Int32) (p1 : Int32) (p2 : Int32) (p3 : Int32) : Int32 :=
  (if p0 = 1 then jn (fun (_ : Unit) => (if p2 = 0 then (if p1 ≤ p3 then 0 else 1) else 0)) (fun k15_10 => (if p2 = 1 then (if p3 ≤ p1 then 1 else k15_10 ()) else k15_10 ())) else (if p0 = 2 then jn (fun (_ : Unit) => (if p2 = 0 then (if p3 ≤ p1 then 0 else 1) else 0)) (fun k45_5 => (if p2 = 2 then (if p1 ≤ p3 then 1 else k45_5 ()) else k45_5 ())) else (if p2 = p0 then (if p3 = p1 then 1 else 0) else 0)))
def f_X11_rankOf (p0 : Int32) : Int32 :=
  (if p0 = 5001 then (-2000) else (if p0 = 5000 then (-1500) else p0))
def f_X0_begin_L2 (fu : Nat) (a0 : Nat) (k23_1 : Mem → Option Mem) : Nat → Int32 → Mem → Option Mem
  | 0, _, _ => none
  | n_2 + 1, x1_8, M_9 =>
  (if 3 ≤ x1_8 then k23_1 M_9 else grd (inb x1_8 3) (nm ((a0 + 5) + 1 + 3 * x1_8.toNatClampNeg) (fun a_12 => nm (up M_9 a_12 2 0) (fun M_13 => nm (x1_8 + 1) (fun x1_14 => f_X0_begin_L2 fu a0 k23_1 n_2 x1_14 M_13)))))
def f_X0_begin (fu : Nat) (a0 : Nat) (M : Mem) : Option Mem :=
  jn (fun (M_2 : Mem) => nm (up M_2 a0 7 0) (fun M_3 => nm (up M_3 a0 9 0) (fun M_4 => nm (up M_4 a0 10 0) (fun M_5 => nm (up M_5 a0 11 0) (fun M_6 => nm (up M_6 a0 12 0) (fun M_7 => some M_7)))))) (fun k23_1 => f_X0_begin_L2 fu a0 k23_1 fu 0 M)
def f_X0_hasCell (fu : Nat) (a0 : Nat) (p1 : Int32) (p2 : Int32) (M : Mem) : Option Int32 :=
  (if p1 < 0 then some 0 else (if (M a0 5) ≤ p1 then some 0 else (if p2 < 0 then some 0 else (if (M a0 6) ≤ p2 then some 0 else some 1))))
def f_X0_answerAt (fu : Nat) (a0 : Nat) (p1 : Int32) (p2 : Int32) (M : Mem) : Option Int32 :=
  grd (inb ((p1 * 3) + p2) 120) (some (M (a0 + 1) ((p1 * 3) + p2).toNatClampNeg))
def f_X6_isCell (fu : Nat) (a0 : Nat) (p1 : Int32) (p2 : Int32) (M : Mem) : Option Int32 :=
  (if p1 < 0 then some 0 else (if (M a0 2) ≤ p1 then some 0 else (if p2 < 0 then some 0 else (if 4 ≤ p2 then some 0 else some 1))))
def f_X6_cellAt (fu : Nat) (a0 : Nat) (p1 : Int32) (p2 : Int32) (M : Mem) : Option Int32 :=
  bd (f_X6_isCell fu a0 p1 p2 M) (fun r_2 => (if r_2 = 0 then some 5000 else grd (inb ((p1 * 4) + p2) 48) (some (M (a0 + 2) ((p1 * 4) + p2).toNatClampNeg))))
def f_X4_allHold_L3 (fu : Nat) (p1 : Int32) (a2 : Nat) (p3 : Int32) (M : Mem) : Nat → Int32 → Option Int32
  | 0, _ => none
  | n_3 + 1, x4_1 =>
  (if (M 80 11) ≤ x4_1 then some 1 else grd (inb x4_1 4) ((if (M 84 x4_1.toNatClampNeg) = p1 then bd (f_X6_cellAt fu a2 p3 (M 85 x4_1.toNatClampNeg) M) (fun r_7 => (if (f_X10_holdsFor (M 86 x4_1.toNatClampNeg) (M 87 x4_1.toNatClampNeg) r_7) = 0 then some 0 else nm (x4_1 + 1) (fun x4_9 => f_X4_allHold_L3 fu p1 a2 p3 M n_3 x4_9))) else nm (x4_1 + 1) (fun x4_5 => f_X4_allHold_L3 fu p1 a2 p3 M n_3 x4_5))))
def f_X4_allHold (fu : Nat) (p1 : Int32) (a2 : Nat) (p3 : Int32) (M : Mem) : Option Int32 :=
  f_X4_allHold_L3 fu p1 a2 p3 M fu 0
def f_X6_moveRow_L14 (fu : Nat) (a0 : Nat) (p1 : Int32) (p2 : Int32) : Nat → Int32 → Mem → Option Mem
  | 0, _, _ => none
  | n_14 + 1, x3_4, M_5 =>
  (if 4 ≤ x3_4 then some M_5 else grd (inb ((p1 * 4) + x3_4) 48) (grd (inb ((p2 * 4) + x3_4) 48) (nm (up M_5 (a0 + 2) ((p2 * 4) + x3_4).toNatClampNeg (M_5 (a0 + 2) ((p1 * 4) + x3_4).toNatClampNeg)) (fun M_9 => nm (x3_4 + 1) (fun x3_10 => f_X6_moveRow_L14 fu a0 p1 p2 n_14 x3_10 M_9)))))
def f_X6_moveRow (fu : Nat) (a0 : Nat) (p1 : Int32) (p2 : Int32) (M : Mem) : Option Mem :=
  grd (inb p1 12) (grd (inb p2 12) (nm (up M (a0 + 1) p2.toNatClampNeg (M (a0 + 1) p1.toNatClampNeg)) (fun M_3 => f_X6_moveRow_L14 fu a0 p1 p2 fu 0 M_3)))
def f_X6_dropPlace_L17 (fu : Nat) (a0 : Nat) (k39_4 : Mem → Option Mem) : Nat → Int32 → Mem → Option Mem
  | 0, _, _ => none
  | n_17 + 1, x2_7, M_8 =>
  (if (M_8 a0 2) ≤ x2_7 then k39_4 M_8 else bd (f_X6_moveRow fu a0 x2_7 (x2_7 - 1) M_8) (fun M_11 => nm (x2_7 + 1) (fun x2_12 => f_X6_dropPlace_L17 fu a0 k39_4 n_17 x2_12 M_11)))
def f_X6_dropPlace (fu : Nat) (a0 : Nat) (p1 : Int32) (M : Mem) : Option Mem :=
  (if p1 < 0 then some M else (if p1 < (M a0 2) then nm (p1 + 1) (fun x2_3 => jn (fun (M_5 : Mem) => nm (up M_5 a0 2 ((M_5 a0 2) - 1)) (fun M_6 => some M_6)) (fun k39_4 => f_X6_dropPlace_L17 fu a0 k39_4 fu x2_3 M)) else some M))
def f_X0_keepWhatHolds_L12 (fu : Nat) (a0 : Nat) (p2 : Int32) : Nat → Int32 → Mem → Option Mem
  | 0, _, _ => none
  | n_12 + 1, x3_4, M_5 =>
  (if x3_4 < 0 then some M_5 else grd (inb p2 3) (nm ((a0 + 5) + 1 + 3 * p2.toNatClampNeg) (fun a_8 => bd (f_X4_allHold fu p2 a_8 x3_4 M_5) (fun r_10 => (if r_10 = 0 then nm ((a0 + 5) + 1 + 3 * p2.toNatClampNeg) (fun a_13 => bd (f_X6_dropPlace fu a_13 x3_4 M_5) (fun M_15 => nm (x3_4 + (-1)) (fun x3_16 => f_X0_keepWhatHolds_L12 fu a0 p2 n_12 x3_16 M_15))) else nm (x3_4 + (-1)) (fun x3_12 => f_X0_keepWhatHolds_L12 fu a0 p2 n_12 x3_12 M_5))))))
def f_X0_keepWhatHolds (fu : Nat) (a0 : Nat) (p2 : Int32) (M : Mem) : Option Mem :=
  grd (inb p2 3) (nm ((a0 + 5) + 1 + 3 * p2.toNatClampNeg) (fun a_2 => nm ((M a_2 2) - 1) (fun x3_3 => f_X0_keepWhatHolds_L12 fu a0 p2 fu x3_3 M)))
def f_X0_choices (fu : Nat) (a0 : Nat) (p2 : Int32) (M : Mem) : Option Int32 :=
  (if (M 80 9) ≤ p2 then some 1 else grd (inb p2 3) (nm ((a0 + 5) + 1 + 3 * p2.toNatClampNeg) (fun a_3 => some (M a_3 2))))
def f_X0_pickedCell (fu : Nat) (a0 : Nat) (p1 : Int32) (p2 : Int32) (M : Mem) : Option Int32 :=
  grd (inb p1 3) (nm ((a0 + 5) + 1 + 3 * p1.toNatClampNeg) (fun a_2 => bd (f_X6_cellAt fu a_2 (M (a0 + 2) p1.toNatClampNeg) p2 M) (fun r_4 => some r_4)))
def f_X0_linksHold_L2 (fu : Nat) (a0 : Nat) (p2 : Int32) (M : Mem) : Nat → Int32 → Option Int32
  | 0, _ => none
  | n_2 + 1, x3_1 =>
  (if (2 * (M 80 10)) ≤ x3_1 then some 1 else grd (inb x3_1 6) ((if (M 82 x3_1.toNatClampNeg) = p2 then bd (f_X0_pickedCell fu a0 p2 (M 83 x3_1.toNatClampNeg) M) (fun r_6 => (if (f_X10_isNumber r_6) = 0 then some 0 else grd (inb (x3_1 - 1) 6) (bd (f_X0_pickedCell fu a0 (M 82 (x3_1 - 1).toNatClampNeg) (M 83 (x3_1 - 1).toNatClampNeg) M) (fun r_10 => (if r_6 = r_10 then nm (x3_1 + 2) (fun x3_12 => f_X0_linksHold_L2 fu a0 p2 M n_2 x3_12) else some 0))))) else nm (x3_1 + 2) (fun x3_13 => f_X0_linksHold_L2 fu a0 p2 M n_2 x3_13))))
def f_X0_linksHold (fu : Nat) (a0 : Nat) (p2 : Int32) (M : Mem) : Option Int32 :=
  f_X0_linksHold_L2 fu a0 p2 M fu 1
def f_X0_groupOf_L68 (fu : Nat) (a0 : Nat) (x3_3 : Int32) (k96_6 : Mem → Option (Int32 × Mem)) : Nat → Int32 → Mem → Option (Int32 × Mem)
  | 0, _, _ => none
  | n_68 + 1, x4_15, M_16 =>
  (if x4_15 < x3_3 then k96_6 M_16 else grd (inb x4_15 120) (grd (inb (x4_15 + 3) 120) (nm (up M_16 (a0 + 1) (x4_15 + 3).toNatClampNeg (M_16 (a0 + 1) x4_15.toNatClampNeg)) (fun M_20 => nm (x4_15 + (-1)) (fun x4_21 => f_X0_groupOf_L68 fu a0 x3_3 k96_6 n_68 x4_21 M_20)))))
def f_X0_groupOf_L2 (fu : Nat) (a0 : Nat) (p1 : Int32) (M : Mem) (k34_1 : Int32 → Option (Int32 × Mem)) : Nat → Int32 → Option (Int32 × Mem)
  | 0, _ => none
  | n_2 + 1, x2_25 =>
  (if (M a0 5) ≤ x2_25 then k34_1 x2_25 else grd (inb (x2_25 * 3) 120) ((if (f_X0_rank p1) ≤ (f_X0_rank (M (a0 + 1) (x2_25 * 3).toNatClampNeg)) then k34_1 x2_25 else nm (x2_25 + 1) (fun x2_29 => f_X0_groupOf_L2 fu a0 p1 M k34_1 n_2 x2_29))))
def f_X0_groupOf (fu : Nat) (a0 : Nat) (p1 : Int32) (M : Mem) : Option (Int32 × Mem) :=
  jn (fun (x2_2 : Int32) => nm (x2_2 * 3) (fun x3_3 => jn (fun (_ : Unit) => nm (((M a0 5) * 3) - 1) (fun x4_5 => jn (fun (M_7 : Mem) => grd (inb x3_3 120) (nm (up M_7 (a0 + 1) x3_3.toNatClampNeg p1) (fun M_9 => grd (inb (x3_3 + 1) 120) (nm (up M_9 (a0 + 1) (x3_3 + 1).toNatClampNeg 0) (fun M_11 => grd (inb (x3_3 + 2) 120) (nm (up M_11 (a0 + 1) (x3_3 + 2).toNatClampNeg 0) (fun M_13 => nm (up M_13 a0 5 ((M_13 a0 5) + 1)) (fun M_14 => some (x2_2, M_14))))))))) (fun k96_6 => f_X0_groupOf_L68 fu a0 x3_3 k96_6 fu x4_5 M))) (fun k58_4 => (if (M a0 5) ≤ x2_2 then k58_4 () else grd (inb x3_3 120) ((if (M (a0 + 1) x3_3.toNatClampNeg) = p1 then some (x2_2, M) else k58_4 ())))))) (fun k34_1 => f_X0_groupOf_L2 fu a0 p1 M k34_1 fu 0)
def f_X0_takeIntoGroup (fu : Nat) (a0 : Nat) (p1 : Int32) (p2 : Int32) (M : Mem) : Option Mem :=
  bm (f_X0_groupOf fu a0 p1 M) (fun r_2 M_3 => nm (r_2 * 3) (fun x3_4 => grd (inb (x3_4 + 1) 120) (nm (up M_3 (a0 + 1) (x3_4 + 1).toNatClampNeg ((M_3 (a0 + 1) (x3_4 + 1).toNatClampNeg) + 1)) (fun M_6 => (if (f_X10_isNumber p2) = 0 then some M_6 else grd (inb (x3_4 + 2) 120) (nm (up M_6 (a0 + 1) (x3_4 + 2).toNatClampNeg ((M_6 (a0 + 1) (x3_4 + 2).toNatClampNeg) + p2)) (fun M_9 => some M_9)))))))
def f_X0_takeMatch_L66 (fu : Nat) (a0 : Nat) (k109_3 : Mem → Option Mem) : Nat → Int32 → Mem → Option Mem
  | 0, _, _ => none
  | n_66 + 1, x2_6, M_7 =>
  (if (M_7 80 12) ≤ x2_6 then k109_3 M_7 else grd (inb x2_6 3) (bd (f_X0_pickedCell fu a0 (M_7 88 x2_6.toNatClampNeg) (M_7 89 x2_6.toNatClampNeg) M_7) (fun r_11 => grd (inb (((M_7 a0 5) * 3) + x2_6) 120) (nm (up M_7 (a0 + 1) (((M_7 a0 5) * 3) + x2_6).toNatClampNeg r_11) (fun M_13 => nm (x2_6 + 1) (fun x2_14 => f_X0_takeMatch_L66 fu a0 k109_3 n_66 x2_14 M_13))))))
def f_X0_takeMatch (fu : Nat) (a0 : Nat) (M : Mem) : Option Mem :=
  (if (M 80 14) = 0 then (if (M 80 13) ≤ (M a0 5) then some M else jn (fun (M_4 : Mem) => nm (up M_4 a0 5 ((M_4 a0 5) + 1)) (fun M_5 => some M_5)) (fun k109_3 => f_X0_takeMatch_L66 fu a0 k109_3 fu 0 M)) else nm ((M 80 12) - 1) (fun x2_15 => bd (f_X0_pickedCell fu a0 (M 88 0) (M 89 0) M) (fun r_17 => grd (inb x2_15 3) (bd (f_X0_pickedCell fu a0 (M 88 x2_15.toNatClampNeg) (M 89 x2_15.toNatClampNeg) M) (fun r_20 => bd (f_X0_takeIntoGroup fu a0 r_17 r_20 M) (fun M_22 => some M_22))))))
def f_X0_make_L77 (fu : Nat) (a0 : Nat) (k116_26 : Mem → Option Mem) : Nat → Int32 → Mem → Option Mem
  | 0, _, _ => none
  | n_77 + 1, x4_29, M_30 =>
  bd (f_X0_choices fu a0 2 M_30) (fun r_32 => (if r_32 ≤ x4_29 then k116_26 M_30 else nm (up M_30 (a0 + 2) 2 x4_29) (fun M_34 => bd (f_X0_linksHold fu a0 2 M_34) (fun r_36 => (if r_36 = 0 then nm (x4_29 + 1) (fun x4_38 => f_X0_make_L77 fu a0 k116_26 n_77 x4_38 M_34) else bd (f_X0_takeMatch fu a0 M_34) (fun M_40 => nm (x4_29 + 1) (fun x4_41 => f_X0_make_L77 fu a0 k116_26 n_77 x4_41 M_40)))))))
def f_X0_make_L45 (fu : Nat) (a0 : Nat) (k122_14 : Mem → Option Mem) : Nat → Int32 → Mem → Option Mem
  | 0, _, _ => none
  | n_45 + 1, x3_17, M_18 =>
  bd (f_X0_choices fu a0 1 M_18) (fun r_20 => (if r_20 ≤ x3_17 then k122_14 M_18 else nm (up M_18 (a0 + 2) 1 x3_17) (fun M_22 => bd (f_X0_linksHold fu a0 1 M_22) (fun r_24 => (if r_24 = 0 then nm (x3_17 + 1) (fun x3_42 => f_X0_make_L45 fu a0 k122_14 n_45 x3_42 M_22) else jn (fun (M_27 : Mem) => nm (x3_17 + 1) (fun x3_28 => f_X0_make_L45 fu a0 k122_14 n_45 x3_28 M_27)) (fun k116_26 => f_X0_make_L77 fu a0 k116_26 fu 0 M_22))))))
def f_X0_make_L26 (fu : Nat) (a0 : Nat) (k128_5 : Mem → Option Mem) : Nat → Int32 → Mem → Option Mem
  | 0, _, _ => none
  | n_26 + 1, x2_8, M_9 =>
  bd (f_X0_choices fu a0 0 M_9) (fun r_11 => (if r_11 ≤ x2_8 then k128_5 M_9 else nm (up M_9 (a0 + 2) 0 x2_8) (fun M_13 => jn (fun (M_15 : Mem) => nm (x2_8 + 1) (fun x2_16 => f_X0_make_L26 fu a0 k128_5 n_26 x2_16 M_15)) (fun k122_14 => f_X0_make_L45 fu a0 k122_14 fu 0 M_13))))
def f_X0_make (fu : Nat) (a0 : Nat) (M : Mem) : Option Mem :=
  nm (up M a0 5 0) (fun M_1 => nm ((if (M_1 80 14) = 0 then (M_1 80 12) else 3) : Int32) (fun v_3 => nm (up M_1 a0 6 v_3) (fun M_4 => jn (fun (M_6 : Mem) => nm (up M_6 a0 5 (if (M_6 80 13) < (M_6 a0 5) then (M_6 80 13) else (M_6 a0 5))) (fun M_7 => some M_7)) (fun k128_5 => f_X0_make_L26 fu a0 k128_5 fu 0 M_4))))
def f_X1_begin (fu : Nat) (p1 : Int32) (p2 : Int32) (p3 : Int32) (M : Mem) : Option Mem :=
  nm (up M 120 7 p1) (fun M_1 => nm (up M_1 120 8 p2) (fun M_2 => nm (up M_2 120 9 0) (fun M_3 => nm (up M_3 120 10 p3) (fun M_4 => bd (f_X0_begin fu 90 M_4) (fun M_6 => some M_6)))))
def f_X1_end (fu : Nat) (M : Mem) : Option Mem :=
  bd (f_X0_make fu 90 M) (fun M_2 => nm ((if (M_2 90 7) = 0 then (if (M_2 120 10) < (M_2 120 9) then (-1) else (M_2 120 10)) else (-1)) : Int32) (fun v_5 => nm (up M_2 90 8 v_5) (fun M_6 => some M_6)))
def f_X1_isTaken_L2 (fu : Nat) (p1 : Int32) (M : Mem) : Nat → Int32 → Option Int32
  | 0, _ => none
  | n_2 + 1, x2_1 =>
  (if (M 90 12) ≤ x2_1 then some 0 else grd (inb x2_1 3) ((if (M 93 x2_1.toNatClampNeg) = p1 then some 1 else nm (x2_1 + 1) (fun x2_5 => f_X1_isTaken_L2 fu p1 M n_2 x2_5))))
def f_X1_isTaken (fu : Nat) (p1 : Int32) (M : Mem) : Option Int32 :=
  f_X1_isTaken_L2 fu p1 M fu 0
def f_X1_endOf_L2 (fu : Nat) (p1 : Int32) (M : Mem) : Nat → Int32 → Option Int32
  | 0, _ => none
  | n_2 + 1, x2_1 =>
  (if (2 * (M 80 10)) ≤ x2_1 then some (-1) else grd (inb x2_1 6) ((if (M 82 x2_1.toNatClampNeg) = p1 then grd (inb (x2_1 ^^^ 1) 6) (bd (f_X1_isTaken fu (M 82 (x2_1 ^^^ 1).toNatClampNeg) M) (fun r_8 => (if r_8 = 0 then nm (x2_1 + 1) (fun x2_10 => f_X1_endOf_L2 fu p1 M n_2 x2_10) else some x2_1))) else nm (x2_1 + 1) (fun x2_5 => f_X1_endOf_L2 fu p1 M n_2 x2_5))))
def f_X1_endOf (fu : Nat) (p1 : Int32) (M : Mem) : Option Int32 :=
  f_X1_endOf_L2 fu p1 M fu 0
def f_X4_isSent (fu : Nat) (p1 : Int32) (p2 : Int32) (M : Mem) : Option Int32 :=
  grd (inb p1 4) ((if (M 84 p1.toNatClampNeg) = p2 then grd (inb p2 3) ((if (f_X10_canDo (f_X10_storeOf (M 81 p2.toNatClampNeg)) (M 85 p1.toNatClampNeg) (M 86 p1.toNatClampNeg)) = 0 then some 0 else some 1)) else some 0))
def f_X4_sentOf_L4 (fu : Nat) (p1 : Int32) (M : Mem) : Nat → Int32 → Int32 → Option Int32
  | 0, _, _ => none
  | n_4 + 1, x2_1, x3_2 =>
  (if (M 80 11) ≤ x3_2 then some x2_1 else bd (f_X4_isSent fu x3_2 p1 M) (fun r_5 => (if r_5 = 0 then nm (x3_2 + 1) (fun x3_7 => f_X4_sentOf_L4 fu p1 M n_4 x2_1 x3_7) else nm (x2_1 + 1) (fun x2_8 => nm (x3_2 + 1) (fun x3_9 => f_X4_sentOf_L4 fu p1 M n_4 x2_8 x3_9)))))
def f_X4_sentOf (fu : Nat) (p1 : Int32) (M : Mem) : Option Int32 :=
  f_X4_sentOf_L4 fu p1 M fu 0 0
def f_X1_guessOf (fu : Nat) (p1 : Int32) (M : Mem) : Option Int32 :=
  grd (inb p1 3) (grd (inb (M 81 p1.toNatClampNeg) 6) (bd (f_X4_sentOf fu p1 M) (fun r_4 => some (if 1 < ((M 59 (M 81 p1.toNatClampNeg).toNatClampNeg) >>> (r_4 &&& 31)) then ((M 59 (M 81 p1.toNatClampNeg).toNatClampNeg) >>> (r_4 &&& 31)) else 1))))
def f_X1_nextSeat_L10 (fu : Nat) (M : Mem) : Nat → Int32 → Int32 → Int32 → Int32 → Option Int32
  | 0, _, _, _, _ => none
  | n_10 + 1, x1_1, x2_2, x3_3, x4_4 =>
  (if (M 80 9) ≤ x4_4 then some x1_1 else bd (f_X1_isTaken fu x4_4 M) (fun r_7 => (if r_7 = 0 then bd (f_X1_endOf fu x4_4 M) (fun r_10 => nm ((if r_10 = (-1) then 0 else 1) : Int32) (fun v_12 => bd (f_X1_guessOf fu x4_4 M) (fun r_14 => jn (fun (_ : Unit) => nm (x4_4 + 1) (fun x4_16 => f_X1_nextSeat_L10 fu M n_10 x4_4 r_14 v_12 x4_16)) (fun k80_15 => jn (fun (_ : Unit) => (if v_12 = x3_3 then (if x2_2 ≤ r_14 then nm (x4_4 + 1) (fun x4_21 => f_X1_nextSeat_L10 fu M n_10 x1_1 x2_2 x3_3 x4_21) else k80_15 ()) else nm (x4_4 + 1) (fun x4_19 => f_X1_nextSeat_L10 fu M n_10 x1_1 x2_2 x3_3 x4_19))) (fun k68_17 => (if v_12 = 0 then k68_17 () else (if x3_3 = 0 then k80_15 () else k68_17 ()))))))) else nm (x4_4 + 1) (fun x4_24 => f_X1_nextSeat_L10 fu M n_10 x1_1 x2_2 x3_3 x4_24))))
def f_X1_nextSeat (fu : Nat) (M : Mem) : Option Int32 :=
  f_X1_nextSeat_L10 fu M fu 0 2147483647 0 0
def f_X5_isGiven_L3 (fu : Nat) (a0 : Nat) (p1 : Int32) (p3 : Int32) (M : Mem) : Nat → Int32 → Option Int32
  | 0, _ => none
  | n_3 + 1, x4_1 =>
  (if (M 80 11) ≤ x4_1 then some 0 else bd (f_X4_isSent fu x4_1 p3 M) (fun r_4 => (if r_4 = 0 then nm (x4_1 + 1) (fun x4_6 => f_X5_isGiven_L3 fu a0 p1 p3 M n_3 x4_6) else grd (inb x4_1 4) (grd (inb p1 4) ((if (M 85 x4_1.toNatClampNeg) = (M (a0 + 4) p1.toNatClampNeg) then (if (f_X10_follows (M (a0 + 5) p1.toNatClampNeg) (M (a0 + 6) p1.toNatClampNeg) (M 86 x4_1.toNatClampNeg) (M 87 x4_1.toNatClampNeg)) = 0 then nm (x4_1 + 1) (fun x4_12 => f_X5_isGiven_L3 fu a0 p1 p3 M n_3 x4_12) else some 1) else nm (x4_1 + 1) (fun x4_10 => f_X5_isGiven_L3 fu a0 p1 p3 M n_3 x4_10)))))))
def f_X5_isGiven (fu : Nat) (a0 : Nat) (p1 : Int32) (p3 : Int32) (M : Mem) : Option Int32 :=
  f_X5_isGiven_L3 fu a0 p1 p3 M fu 0
def f_X5_servesConditions_L2 (fu : Nat) (a0 : Nat) (p2 : Int32) (M : Mem) : Nat → Int32 → Option Int32
  | 0, _ => none
  | n_2 + 1, x3_1 =>
  (if (M a0 4) ≤ x3_1 then some 1 else bd (f_X5_isGiven fu a0 x3_1 p2 M) (fun r_4 => (if r_4 = 0 then some 0 else nm (x3_1 + 1) (fun x3_6 => f_X5_servesConditions_L2 fu a0 p2 M n_2 x3_6))))
def f_X5_servesConditions (fu : Nat) (a0 : Nat) (p2 : Int32) (M : Mem) : Option Int32 :=
  f_X5_servesConditions_L2 fu a0 p2 M fu 0
def f_X3_serving_L8 (fu : Nat) (p2 : Int32) (p3 : Int32) (M : Mem) : Nat → Int32 → Option (Option Nat)
  | 0, _ => none
  | n_8 + 1, x4_2 =>
  (if x4_2 < 0 then some none else grd (inb x4_2 6) (nm (M 3 x4_2.toNatClampNeg).toNatClampNeg (fun e_5 => grd (kb 5 e_5) (grd (inb p2 3) ((if (M e_5 5) = (M 81 p2.toNatClampNeg) then (if p3 < ((M 1 0) - (M e_5 7)) then nm (x4_2 + (-1)) (fun x4_10 => f_X3_serving_L8 fu p2 p3 M n_8 x4_10) else bd (f_X5_servesConditions fu e_5 p2 M) (fun r_12 => (if r_12 = 0 then nm (x4_2 + (-1)) (fun x4_14 => f_X3_serving_L8 fu p2 p3 M n_8 x4_14) else some (some e_5)))) else nm (x4_2 + (-1)) (fun x4_8 => f_X3_serving_L8 fu p2 p3 M n_8 x4_8)))))))
def f_X3_serving (fu : Nat) (p2 : Int32) (p3 : Int32) (M : Mem) : Option (Option Nat) :=
  nm ((M 2 4) - 1) (fun x4_1 => f_X3_serving_L8 fu p2 p3 M fu x4_1)
def f_X6_copy (fu : Nat) (a0 : Nat) (a1 : Nat) (M : Mem) : Option Mem :=
  nm (up M a0 2 (M a1 2)) (fun M_1 => nm (row M_1 (a0 + 1) (va_cpy (M_1 (a1 + 1)) (M_1 (a0 + 1)) 0 0 12)) (fun M_2 => nm (row M_2 (a0 + 2) (va_cpy (M_2 (a1 + 2)) (M_2 (a0 + 2)) 0 0 48)) (fun M_3 => some M_3)))
def f_X1_narrow (fu : Nat) (p1 : Int32) (p2 : Int32) (M : Mem) : Option Mem :=
  nm (up M 120 9 (if (M 120 9) < p1 then p1 else (M 120 9))) (fun M_1 => nm (up M_1 120 10 (if p2 < (M_1 120 10) then p2 else (M_1 120 10))) (fun M_2 => some M_2))
def f_X1_close (fu : Nat) (p1 : Int32) (p2 : Int32) (M : Mem) : Option Mem :=
  bd (f_X0_keepWhatHolds fu 90 p1 M) (fun M_2 => grd (inb (M_2 90 12) 3) (nm (up M_2 93 (M_2 90 12).toNatClampNeg p1) (fun M_4 => grd (inb (M_4 90 12) 3) (nm (up M_4 94 (M_4 90 12).toNatClampNeg p2) (fun M_6 => nm (up M_6 90 12 ((M_6 90 12) + 1)) (fun M_7 => some M_7))))))
def f_X1_mayBind (fu : Nat) (p1 : Int32) (p2 : Int32) (M : Mem) : Option Int32 :=
  nm (f_X10_storeOf p1) (fun x3_1 => grd (inb (p2 ^^^ 1) 6) (grd (inb (M 82 (p2 ^^^ 1).toNatClampNeg) 3) (nm (M 81 (M 82 (p2 ^^^ 1).toNatClampNeg).toNatClampNeg) (fun x4_4 => grd (inb p2 6) ((if (f_X10_canDo x3_1 (M 83 p2.toNatClampNeg) 0) = 0 then some 0 else grd (inb ((x4_4 * 3) + x3_1) 18) ((if (M 54 ((x4_4 * 3) + x3_1).toNatClampNeg) = 0 then some 1 else some 0))))))))
def f_X1_scanCost (fu : Nat) (p1 : Int32) (M : Mem) : Option Int32 :=
  grd (inb p1 3) (nm (f_X10_storeOf (M 81 p1.toNatClampNeg)) (fun x2_2 => grd (inb x2_2 3) (bd (f_X1_guessOf fu p1 M) (fun r_5 => some ((fee x2_2.toNatClampNeg) + (r_5 * (freight x2_2.toNatClampNeg)))))))
def f_X1_isKey_L3 (fu : Nat) (p1 : Int32) (p3 : Int32) (M : Mem) : Nat → Int32 → Option Int32
  | 0, _ => none
  | n_3 + 1, x4_1 =>
  (if p3 ≤ x4_1 then some 0 else grd (inb x4_1 12) ((if (M 121 x4_1.toNatClampNeg) = p1 then some 1 else nm (x4_1 + 1) (fun x4_5 => f_X1_isKey_L3 fu p1 p3 M n_3 x4_5))))
def f_X1_isKey (fu : Nat) (p1 : Int32) (p2 : Int32) (p3 : Int32) (M : Mem) : Option Int32 :=
  f_X1_isKey_L3 fu p1 p3 M fu p2
def f_X1_addKey_L5 (fu : Nat) (p1 : Int32) (k41_2 : Int32 → Mem → Option Mem) : Nat → Int32 → Mem → Option Mem
  | 0, _, _ => none
  | n_5 + 1, x2_8, M_9 =>
  (if x2_8 ≤ 0 then k41_2 x2_8 M_9 else grd (inb (x2_8 - 1) 12) ((if (M_9 121 (x2_8 - 1).toNatClampNeg) ≤ p1 then k41_2 x2_8 M_9 else grd (inb x2_8 12) (nm (up M_9 121 x2_8.toNatClampNeg (M_9 121 (x2_8 - 1).toNatClampNeg)) (fun M_14 => nm (x2_8 + (-1)) (fun x2_15 => f_X1_addKey_L5 fu p1 k41_2 n_5 x2_15 M_14))))))
def f_X1_addKey (fu : Nat) (p1 : Int32) (M : Mem) : Option Mem :=
  nm (M 120 6) (fun x2_1 => jn (fun (x2_3 : Int32) (M_4 : Mem) => grd (inb x2_3 12) (nm (up M_4 121 x2_3.toNatClampNeg p1) (fun M_6 => nm (up M_6 120 6 ((M_6 120 6) + 1)) (fun M_7 => some M_7)))) (fun k41_2 => f_X1_addKey_L5 fu p1 k41_2 fu x2_1 M))
def f_X1_gatherKeys_L25 (fu : Nat) (p1 : Int32) (a_3 : Nat) : Nat → Int32 → Mem → Option Mem
  | 0, _, _ => none
  | n_25 + 1, x3_5, M_6 =>
  (if (M_6 a_3 2) ≤ x3_5 then some M_6 else grd (inb p1 6) (bd (f_X6_cellAt fu a_3 x3_5 (M_6 83 p1.toNatClampNeg) M_6) (fun r_10 => (if (f_X10_isNumber r_10) = 0 then nm (x3_5 + 1) (fun x3_12 => f_X1_gatherKeys_L25 fu p1 a_3 n_25 x3_12 M_6) else bd (f_X1_isKey fu r_10 0 (M_6 120 6) M_6) (fun r_14 => (if r_14 = 0 then bd (f_X1_addKey fu r_10 M_6) (fun M_18 => nm (x3_5 + 1) (fun x3_19 => f_X1_gatherKeys_L25 fu p1 a_3 n_25 x3_19 M_18)) else nm (x3_5 + 1) (fun x3_16 => f_X1_gatherKeys_L25 fu p1 a_3 n_25 x3_16 M_6)))))))
def f_X1_gatherKeys (fu : Nat) (p1 : Int32) (M : Mem) : Option Mem :=
  grd (inb p1 6) (grd (inb (M 82 p1.toNatClampNeg) 3) (nm (95 + 1 + 3 * (M 82 p1.toNatClampNeg).toNatClampNeg) (fun a_3 => nm (up M 120 6 0) (fun M_4 => f_X1_gatherKeys_L25 fu p1 a_3 fu 0 M_4))))
def f_X1_bindCost (fu : Nat) (p1 : Int32) (M : Mem) : Option Int32 :=
  nm ((((M 120 6) + 4) - 1) / 4) (fun x2_1 => grd (inb p1 3) (some ((x2_1 * (fee p1.toNatClampNeg)) + ((M 120 6) * (freight p1.toNatClampNeg)))))
def f_X3_sweep_L4 (fu : Nat) (k85_1 : Int32 → Mem → Option Mem) : Nat → Int32 → Int32 → Mem → Option Mem
  | 0, _, _, _ => none
  | n_4 + 1, x1_5, x2_6, M_7 =>
  (if (M_7 2 4) ≤ x2_6 then k85_1 x1_5 M_7 else grd (inb x2_6 6) (nm (M_7 3 x2_6.toNatClampNeg).toNatClampNeg (fun e_10 => grd (kb 5 e_10) ((if (M_7 e_10 10) ≤ (M_7 1 0) then nm (x2_6 + 1) (fun x2_12 => f_X3_sweep_L4 fu k85_1 n_4 x1_5 x2_12 M_7) else grd (inb (M_7 e_10 6) 3) ((if (M_7 5 (M_7 e_10 6).toNatClampNeg) < ((M_7 1 0) - (M_7 e_10 7)) then nm (x2_6 + 1) (fun x2_15 => f_X3_sweep_L4 fu k85_1 n_4 x1_5 x2_15 M_7) else grd (inb x1_5 6) (nm (M_7 3 x1_5.toNatClampNeg).toNatClampNeg (fun e_17 => grd (kb 5 e_17) (nm (up M_7 3 x2_6.toNatClampNeg (nI e_17)) (fun M_18 => nm (up M_18 3 x1_5.toNatClampNeg (nI e_10)) (fun M_19 => nm (x1_5 + 1) (fun x1_20 => nm (x2_6 + 1) (fun x2_21 => f_X3_sweep_L4 fu k85_1 n_4 x1_20 x2_21 M_19))))))))))))))
def f_X3_sweep (fu : Nat) (M : Mem) : Option Mem :=
  jn (fun (x1_2 : Int32) (M_3 : Mem) => nm (up M_3 2 4 x1_2) (fun M_4 => some M_4)) (fun k85_1 => f_X3_sweep_L4 fu k85_1 fu 0 0 M)
def f_X8_goOnTo (fu : Nat) (p1 : Int32) (M : Mem) : Option Mem :=
  nm (up M 1 0 p1) (fun M_1 => bd (f_X3_sweep fu M_1) (fun M_3 => some M_3))
def f_X8_awaitQuota (fu : Nat) (p1 : Int32) (M : Mem) : Option Mem :=
  nm ((M 1 0) / 10) (fun x2_1 => grd (inb p1 3) ((if (M 55 p1.toNatClampNeg) = x2_1 then (if (M 56 p1.toNatClampNeg) < (M 50 p1.toNatClampNeg) then some M else bd (f_X8_goOnTo fu ((x2_1 + 1) * 10) M) (fun M_6 => some M_6)) else some M)))
def f_X8_attempt (fu : Nat) (p1 : Int32) (M : Mem) : Option (Int32 × Mem) :=
  nm ((M 1 0) / 10) (fun x2_1 => grd (inb p1 3) (jn (fun (M_4 : Mem) => nm (up M_4 56 p1.toNatClampNeg ((M_4 56 p1.toNatClampNeg) + 1)) (fun M_5 => bd (f_X8_goOnTo fu ((M_5 1 0) + (M_5 49 p1.toNatClampNeg)) M_5) (fun M_7 => (if (M_7 52 p1.toNatClampNeg) ≤ 0 then some (1, M_7) else nm (up M_7 52 p1.toNatClampNeg ((M_7 52 p1.toNatClampNeg) - 1)) (fun M_9 => some (0, M_9)))))) (fun k35_3 => (if (M 55 p1.toNatClampNeg) = x2_1 then k35_3 M else nm (up M 55 p1.toNatClampNeg x2_1) (fun M_11 => nm (up M_11 56 p1.toNatClampNeg 0) (fun M_12 => k35_3 M_12))))))
def f_X1_request_L2 (fu : Nat) (p1 : Int32) : Nat → Int32 → Mem → Option (Int32 × Mem)
  | 0, _, _ => none
  | n_2 + 1, x2_1, M_2 =>
  (if 3 ≤ x2_1 then some (0, M_2) else bd (f_X8_awaitQuota fu p1 M_2) (fun M_5 => (if (M_5 1 0) ≤ (M_5 120 8) then nm (up M_5 90 10 ((M_5 90 10) + 1)) (fun M_7 => grd (inb p1 3) (nm (up M_7 90 9 ((M_7 90 9) + (fee p1.toNatClampNeg))) (fun M_9 => bm (f_X8_attempt fu p1 M_9) (fun r_11 M_12 => (if r_11 = 0 then nm (x2_1 + 1) (fun x2_14 => f_X1_request_L2 fu p1 n_2 x2_14 M_12) else some (1, M_12)))))) else some (0, M_5))))
def f_X1_request (fu : Nat) (p1 : Int32) (M : Mem) : Option (Int32 × Mem) :=
  f_X1_request_L2 fu p1 fu 0 M
def f_X1_open (fu : Nat) (p1 : Int32) (M : Mem) : Option Mem :=
  nm (up M 90 7 ((M 90 7) ||| (1 <<< (p1 &&& 31)))) (fun M_1 => some M_1)
def f_X4_sentHold_L3 (fu : Nat) (p1 : Int32) (a2 : Nat) (p3 : Int32) (M : Mem) : Nat → Int32 → Option Int32
  | 0, _ => none
  | n_3 + 1, x4_1 =>
  (if (M 80 11) ≤ x4_1 then some 1 else bd (f_X4_isSent fu x4_1 p1 M) (fun r_4 => (if r_4 = 0 then nm (x4_1 + 1) (fun x4_6 => f_X4_sentHold_L3 fu p1 a2 p3 M n_3 x4_6) else grd (inb x4_1 4) (bd (f_X6_cellAt fu a2 p3 (M 85 x4_1.toNatClampNeg) M) (fun r_9 => (if (f_X10_holdsFor (M 86 x4_1.toNatClampNeg) (M 87 x4_1.toNatClampNeg) r_9) = 0 then some 0 else nm (x4_1 + 1) (fun x4_11 => f_X4_sentHold_L3 fu p1 a2 p3 M n_3 x4_11)))))))
def f_X4_sentHold (fu : Nat) (p1 : Int32) (a2 : Nat) (p3 : Int32) (M : Mem) : Option Int32 :=
  f_X4_sentHold_L3 fu p1 a2 p3 M fu 0
def f_X6_makePlace_L26 (fu : Nat) (a0 : Nat) (p1 : Int32) (k56_4 : Int32 → Mem → Option (Int32 × Mem)) : Nat → Int32 → Mem → Option (Int32 × Mem)
  | 0, _, _ => none
  | n_26 + 1, x2_9, M_10 =>
  (if x2_9 ≤ 0 then k56_4 x2_9 M_10 else grd (inb (x2_9 - 1) 12) ((if (M_10 (a0 + 1) (x2_9 - 1).toNatClampNeg) ≤ p1 then k56_4 x2_9 M_10 else bd (f_X6_moveRow fu a0 (x2_9 - 1) x2_9 M_10) (fun M_15 => nm (x2_9 + (-1)) (fun x2_16 => f_X6_makePlace_L26 fu a0 p1 k56_4 n_26 x2_16 M_15)))))
def f_X6_makePlace (fu : Nat) (a0 : Nat) (p1 : Int32) (M : Mem) : Option (Int32 × Mem) :=
  (if (M a0 2) < 12 then nm (M a0 2) (fun x2_2 => nm (up M a0 2 ((M a0 2) + 1)) (fun M_3 => jn (fun (x2_5 : Int32) (M_6 : Mem) => grd (inb x2_5 12) (nm (up M_6 (a0 + 1) x2_5.toNatClampNeg p1) (fun M_8 => some (x2_5, M_8)))) (fun k56_4 => f_X6_makePlace_L26 fu a0 p1 k56_4 fu x2_2 M_3))) else some ((-1), M))
def f_X6_putCell (fu : Nat) (a0 : Nat) (p1 : Int32) (p2 : Int32) (p3 : Int32) (M : Mem) : Option Mem :=
  bd (f_X6_isCell fu a0 p1 p2 M) (fun r_2 => (if r_2 = 0 then some M else grd (inb ((p1 * 4) + p2) 48) (nm (up M (a0 + 2) ((p1 * 4) + p2).toNatClampNeg p3) (fun M_5 => some M_5))))
def f_X6_takeRow_L27 (fu : Nat) (a0 : Nat) (a1 : Nat) (p2 : Int32) (r_5 : Int32) : Nat → Int32 → Mem → Option Mem
  | 0, _, _ => none
  | n_27 + 1, x4_7, M_8 =>
  (if 4 ≤ x4_7 then some M_8 else bd (f_X6_cellAt fu a1 p2 x4_7 M_8) (fun r_11 => bd (f_X6_putCell fu a0 r_5 x4_7 r_11 M_8) (fun M_13 => nm (x4_7 + 1) (fun x4_14 => f_X6_takeRow_L27 fu a0 a1 p2 r_5 n_27 x4_14 M_13))))
def f_X6_takeRow (fu : Nat) (a0 : Nat) (a1 : Nat) (p2 : Int32) (M : Mem) : Option Mem :=
  (if p2 < 0 then some M else (if p2 < (M a1 2) then grd (inb p2 12) (bm (f_X6_makePlace fu a0 (M (a1 + 1) p2.toNatClampNeg) M) (fun r_5 M_6 => f_X6_takeRow_L27 fu a0 a1 p2 r_5 fu 0 M_6)) else some M))
def f_X1_receive_L36 (fu : Nat) (p1 : Int32) (p2 : Int32) (p3 : Int32) (p4 : Int32) (x6_3 : Int32) (a_5 : Nat) (k166_6 : Mem → Option (Int32 × Mem)) (k102_9 : Mem → Option (Int32 × Mem)) : Nat → Int32 → Int32 → Mem → Option (Int32 × Mem)
  | 0, _, _, _ => none
  | n_36 + 1, x8_13, x9_14, M_15 =>
  (if (M_15 a_5 2) ≤ x9_14 then k166_6 M_15 else bd (f_X4_sentHold fu p1 a_5 x9_14 M_15) (fun r_18 => (if r_18 = 0 then nm (x9_14 + 1) (fun x9_20 => f_X1_receive_L36 fu p1 p2 p3 p4 x6_3 a_5 k166_6 k102_9 n_36 x8_13 x9_20 M_15) else jn (fun (_ : Unit) => grd (inb x6_3 3) ((if x8_13 < (M_15 51 x6_3.toNatClampNeg) then grd (inb p1 3) (nm (95 + 1 + 3 * p1.toNatClampNeg) (fun a_25 => bd (f_X6_takeRow fu a_25 a_5 x9_14 M_15) (fun M_27 => nm (up M_27 90 11 ((M_27 90 11) + 1)) (fun M_28 => nm (up M_28 90 9 ((M_28 90 9) + (freight x6_3.toNatClampNeg))) (fun M_29 => nm (x8_13 + 1) (fun x8_30 => nm (x9_14 + 1) (fun x9_31 => f_X1_receive_L36 fu p1 p2 p3 p4 x6_3 a_5 k166_6 k102_9 n_36 x8_30 x9_31 M_29))))))) else k102_9 M_15))) (fun k87_21 => (if p2 = (-1) then k87_21 () else bd (f_X6_cellAt fu a_5 x9_14 p2 M_15) (fun r_34 => bd (f_X1_isKey fu r_34 p3 p4 M_15) (fun r_36 => (if r_36 = 0 then nm (x9_14 + 1) (fun x9_38 => f_X1_receive_L36 fu p1 p2 p3 p4 x6_3 a_5 k166_6 k102_9 n_36 x8_13 x9_38 M_15) else k87_21 ()))))))))
def f_X1_receive (fu : Nat) (p1 : Int32) (p2 : Int32) (p3 : Int32) (p4 : Int32) (M : Mem) : Option (Int32 × Mem) :=
  grd (inb p1 3) (nm (M 81 p1.toNatClampNeg) (fun x5_2 => nm (f_X10_storeOf x5_2) (fun x6_3 => grd (inb x5_2 6) (nm (61 + 1 + 3 * x5_2.toNatClampNeg) (fun a_5 => jn (fun (M_7 : Mem) => (if ((M_7 90 7) &&& (1 <<< (p1 &&& 31))) = 0 then some (1, M_7) else some (0, M_7))) (fun k166_6 => jn (fun (M_10 : Mem) => bd (f_X1_open fu p1 M_10) (fun M_12 => k166_6 M_12)) (fun k102_9 => f_X1_receive_L36 fu p1 p2 p3 p4 x6_3 a_5 k166_6 k102_9 fu 0 0 M)))))))
def f_X1_bind_L17 (fu : Nat) (p1 : Int32) (p2 : Int32) (p3 : Int32) (x4_2 : Int32) : Nat → Int32 → Mem → Option (Int32 × Mem)
  | 0, _, _ => none
  | n_17 + 1, x5_3, M_4 =>
  (if (M_4 120 6) ≤ x5_3 then some (1, M_4) else bm (f_X1_request fu x4_2 M_4) (fun r_7 M_8 => (if r_7 = 0 then bd (f_X1_open fu p1 M_8) (fun M_19 => some (1, M_19)) else nm (if (M_8 120 6) < (x5_3 + 4) then (M_8 120 6) else (x5_3 + 4)) (fun x6_10 => bm (f_X1_receive fu p1 p2 x5_3 x6_10 M_8) (fun r_12 M_13 => (if (M_13 120 6) ≤ x6_10 then nm (x5_3 + 4) (fun x5_15 => f_X1_bind_L17 fu p1 p2 p3 x4_2 n_17 x5_15 M_13) else (if (M_13 90 9) < p3 then nm (x5_3 + 4) (fun x5_17 => f_X1_bind_L17 fu p1 p2 p3 x4_2 n_17 x5_17 M_13) else some (2, M_13))))))))
def f_X1_bind (fu : Nat) (p1 : Int32) (p2 : Int32) (p3 : Int32) (M : Mem) : Option (Int32 × Mem) :=
  grd (inb p1 3) (nm (f_X10_storeOf (M 81 p1.toNatClampNeg)) (fun x4_2 => f_X1_bind_L17 fu p1 p2 p3 x4_2 fu 0 M))
def f_X3_nextEntry_L40 (fu : Nat) (k66_3 : Mem → Option (Option Nat × Mem)) : Nat → Int32 → Mem → Option (Option Nat × Mem)
  | 0, _, _ => none
  | n_40 + 1, x2_6, M_7 =>
  (if 6 ≤ x2_6 then k66_3 M_7 else grd (inb x2_6 6) (nm (M_7 3 x2_6.toNatClampNeg).toNatClampNeg (fun e_10 => grd (kb 5 e_10) (grd (inb (x2_6 - 1) 6) (nm (up M_7 3 (x2_6 - 1).toNatClampNeg (nI e_10)) (fun M_12 => nm (x2_6 + 1) (fun x2_13 => f_X3_nextEntry_L40 fu k66_3 n_40 x2_13 M_12)))))))
def f_X3_nextEntry (fu : Nat) (M : Mem) : Option (Option Nat × Mem) :=
  (if 6 ≤ (M 2 4) then nm (M 3 0).toNatClampNeg (fun e_2 => grd (kb 5 e_2) (jn (fun (M_4 : Mem) => nm (up M_4 3 5 (nI e_2)) (fun M_5 => some ((some e_2), M_5))) (fun k66_3 => f_X3_nextEntry_L40 fu k66_3 fu 1 M))) else nm (up M 2 4 ((M 2 4) + 1)) (fun M_14 => grd (inb ((M_14 2 4) - 1) 6) (nm (M_14 3 ((M_14 2 4) - 1).toNatClampNeg).toNatClampNeg (fun e_16 => grd (kb 5 e_16) (some ((some e_16), M_14))))))
def f_X5_keepConditions_L7 (fu : Nat) (a0 : Nat) (p2 : Int32) : Nat → Int32 → Mem → Option Mem
  | 0, _, _ => none
  | n_7 + 1, x3_2, M_3 =>
  (if (M_3 80 11) ≤ x3_2 then some M_3 else bd (f_X4_isSent fu x3_2 p2 M_3) (fun r_6 => (if r_6 = 0 then nm (x3_2 + 1) (fun x3_8 => f_X5_keepConditions_L7 fu a0 p2 n_7 x3_8 M_3) else grd (inb x3_2 4) (grd (inb (M_3 a0 4) 4) (nm (up M_3 (a0 + 4) (M_3 a0 4).toNatClampNeg (M_3 85 x3_2.toNatClampNeg)) (fun M_11 => grd (inb (M_11 a0 4) 4) (nm (up M_11 (a0 + 5) (M_11 a0 4).toNatClampNeg (M_11 86 x3_2.toNatClampNeg)) (fun M_13 => grd (inb (M_13 a0 4) 4) (nm (up M_13 (a0 + 6) (M_13 a0 4).toNatClampNeg (M_13 87 x3_2.toNatClampNeg)) (fun M_15 => nm (up M_15 a0 4 ((M_15 a0 4) + 1)) (fun M_16 => nm (x3_2 + 1) (fun x3_17 => f_X5_keepConditions_L7 fu a0 p2 n_7 x3_17 M_16))))))))))))
def f_X5_keepConditions (fu : Nat) (a0 : Nat) (p2 : Int32) (M : Mem) : Option Mem :=
  nm (up M a0 4 0) (fun M_1 => f_X5_keepConditions_L7 fu a0 p2 fu 0 M_1)
def f_X3_keep (fu : Nat) (p2 : Int32) (a3 : Nat) (p4 : Int32) (M : Mem) : Option Mem :=
  bm (f_X3_nextEntry fu M) (fun r_2 M_3 => om r_2 (fun e_4 => grd (kb 5 e_4) (grd (inb p2 3) (nm (up M_3 e_4 5 (M_3 81 p2.toNatClampNeg)) (fun M_6 => nm (up M_6 e_4 6 (f_X10_storeOf (M_6 e_4 5))) (fun M_7 => nm (up M_7 e_4 7 (M_7 1 0)) (fun M_8 => nm (up M_8 e_4 8 p4) (fun M_9 => nm (up M_9 e_4 9 2147483647) (fun M_10 => nm (up M_10 e_4 10 2147483647) (fun M_11 => bd (f_X6_copy fu (e_4 + 1) a3 M_11) (fun M_13 => bd (f_X5_keepConditions fu e_4 p2 M_13) (fun M_15 => some M_15))))))))))) (none))
def f_X1_scan (fu : Nat) (p1 : Int32) (M : Mem) : Option Mem :=
  grd (inb p1 3) (nm (M 81 p1.toNatClampNeg) (fun x2_2 => nm (95 + 1 + 3 * p1.toNatClampNeg) (fun a_3 => nm (up M a_3 2 0) (fun M_4 => nm (up M_4 90 7 ((M_4 90 7) &&& ((1 <<< (p1 &&& 31)) ^^^ (-1)))) (fun M_5 => bm (f_X1_request fu (f_X10_storeOf x2_2) M_5) (fun r_7 M_8 => (if r_7 = 0 then bd (f_X1_open fu p1 M_8) (fun M_27 => some M_27) else bm (f_X1_receive fu p1 (-1) 0 0 M_8) (fun r_11 M_12 => (if r_11 = 0 then some M_12 else bd (f_X4_sentOf fu p1 M_12) (fun r_15 => jn (fun (M_17 : Mem) => nm (95 + 1 + 3 * p1.toNatClampNeg) (fun a_18 => grd (inb x2_2 6) (bd (f_X3_keep fu p1 a_18 (M_17 60 x2_2.toNatClampNeg) M_17) (fun M_21 => some M_21)))) (fun k102_16 => (if r_15 = 0 then nm (95 + 1 + 3 * p1.toNatClampNeg) (fun a_23 => grd (inb x2_2 6) (nm (up M_12 59 x2_2.toNatClampNeg (M_12 a_23 2)) (fun M_25 => k102_16 M_25))) else k102_16 M_12))))))))))))
def f_X1_takeSeat (fu : Nat) (p1 : Int32) (M : Mem) : Option Mem :=
  grd (inb p1 3) (nm (M 81 p1.toNatClampNeg) (fun x2_2 => bd (f_X3_serving fu p1 (M 120 7) M) (fun r_4 => om r_4 (fun e_5 => grd (kb 5 e_5) (nm (95 + 1 + 3 * p1.toNatClampNeg) (fun a_6 => bd (f_X6_copy fu a_6 (e_5 + 1) M) (fun M_8 => bd (f_X1_narrow fu (M_8 e_5 8) (M_8 e_5 9) M_8) (fun M_10 => bd (f_X1_close fu p1 0 M_10) (fun M_12 => some M_12)))))) (grd (inb x2_2 6) (bd (f_X1_narrow fu (M 60 x2_2.toNatClampNeg) (M 120 10) M) (fun M_15 => bd (f_X1_endOf fu p1 M_15) (fun r_17 => jn (fun (x4_19 : Int32) (M_20 : Mem) => jn (fun (M_22 : Mem) => bd (f_X1_close fu p1 x4_19 M_22) (fun M_24 => some M_24)) (fun k175_21 => (if x4_19 = 1 then k175_21 M_20 else bd (f_X1_scan fu p1 M_20) (fun M_27 => k175_21 M_27)))) (fun k164_18 => (if r_17 = (-1) then k164_18 3 M_15 else bd (f_X1_mayBind fu x2_2 r_17 M_15) (fun r_30 => (if r_30 = 0 then k164_18 3 M_15 else bd (f_X1_scanCost fu p1 M_15) (fun r_33 => bd (f_X1_gatherKeys fu (r_17 ^^^ 1) M_15) (fun M_35 => bd (f_X1_bindCost fu (f_X10_storeOf x2_2) M_35) (fun r_37 => (if r_33 ≤ r_37 then k164_18 3 M_35 else grd (inb r_17 6) (bm (f_X1_bind fu p1 (M_35 83 r_17.toNatClampNeg) ((M_35 90 9) + r_33) M_35) (fun r_41 M_42 => k164_18 r_41 M_42)))))))))))))))))
def f_X2_addStep (fu : Nat) (p1 : Int32) (p2 : Int32) (p3 : Int32) (p4 : Int32) (p5 : Int32) (p6 : Int32) (M : Mem) : Option (Int32 × Mem) :=
  grd (inb (M 122 9) 4) (nm (up M 123 (M 122 9).toNatClampNeg p1) (fun M_2 => grd (inb (M_2 122 9) 4) (nm (up M_2 124 (M_2 122 9).toNatClampNeg p2) (fun M_4 => nm ((M_4 122 9) * 4) (fun x7_5 => grd (inb x7_5 16) (nm (up M_4 125 x7_5.toNatClampNeg p3) (fun M_7 => grd (inb (x7_5 + 1) 16) (nm (up M_7 125 (x7_5 + 1).toNatClampNeg p4) (fun M_9 => grd (inb (x7_5 + 2) 16) (nm (up M_9 125 (x7_5 + 2).toNatClampNeg p5) (fun M_11 => grd (inb (x7_5 + 3) 16) (nm (up M_11 125 (x7_5 + 3).toNatClampNeg p6) (fun M_13 => grd (inb (M_13 122 9) 4) (nm (up M_13 126 (M_13 122 9).toNatClampNeg 0) (fun M_15 => nm (up M_15 122 9 ((M_15 122 9) + 1)) (fun M_16 => some ((M_16 122 9), M_16)))))))))))))))))
def f_X6_placeOf_L2 (fu : Nat) (a0 : Nat) (p1 : Int32) (M : Mem) : Nat → Int32 → Option Int32
  | 0, _ => none
  | n_2 + 1, x2_1 =>
  (if (M a0 2) ≤ x2_1 then some (-1) else grd (inb x2_1 12) ((if (M (a0 + 1) x2_1.toNatClampNeg) = p1 then some x2_1 else nm (x2_1 + 1) (fun x2_5 => f_X6_placeOf_L2 fu a0 p1 M n_2 x2_5))))
def f_X6_placeOf (fu : Nat) (a0 : Nat) (p1 : Int32) (M : Mem) : Option Int32 :=
  f_X6_placeOf_L2 fu a0 p1 M fu 0
def f_X6_hasMark (fu : Nat) (a0 : Nat) (p1 : Int32) (M : Mem) : Option Int32 :=
  bd (f_X6_placeOf fu a0 p1 M) (fun r_2 => (if r_2 = (-1) then some 0 else some 1))
def f_X7_hasRoom (fu : Nat) (p1 : Int32) (p2 : Int32) (M : Mem) : Option Int32 :=
  grd (inb p1 6) (nm (61 + 1 + 3 * p1.toNatClampNeg) (fun a_2 => (if (M a_2 2) < 12 then (if (f_X10_storeOf p1) = 0 then (if 60 ≤ (M 58 p1.toNatClampNeg) then some 0 else some 1) else nm (61 + 1 + 3 * p1.toNatClampNeg) (fun a_5 => bd (f_X6_hasMark fu a_5 p2 M) (fun r_7 => (if r_7 = 0 then some 1 else some 0)))) else some 0)))
def f_X2_canStep (fu : Nat) (p1 : Int32) (M : Mem) : Option Int32 :=
  grd (inb p1 4) (nm (M 124 p1.toNatClampNeg) (fun x2_2 => nm (f_X10_storeOf x2_2) (fun x3_3 => nm (p1 * 4) (fun x4_4 => (if (M 123 p1.toNatClampNeg) = 0 then grd (inb x4_4 16) (grd (inb (x4_4 + 1) 16) (grd (inb (x4_4 + 2) 16) (grd (inb (x4_4 + 3) 16) ((if (f_X10_rowFits x3_3 (M 125 x4_4.toNatClampNeg) (M 125 (x4_4 + 1).toNatClampNeg) (M 125 (x4_4 + 2).toNatClampNeg) (M 125 (x4_4 + 3).toNatClampNeg)) = 0 then some 0 else bd (f_X7_hasRoom fu x2_2 (M 125 x4_4.toNatClampNeg) M) (fun r_12 => (if r_12 = 0 then some 0 else some 1))))))) else (if (M 123 p1.toNatClampNeg) = 1 then grd (inb x2_2 6) (nm (61 + 1 + 3 * x2_2.toNatClampNeg) (fun a_16 => grd (inb x4_4 16) (bd (f_X6_hasMark fu a_16 (M 125 x4_4.toNatClampNeg) M) (fun r_19 => (if r_19 = 0 then some 0 else grd (inb (x4_4 + 1) 16) ((if (f_X10_isIn (M 125 (x4_4 + 1).toNatClampNeg) 0 ((f_X10_columnsIn x3_3) - 1)) = 0 then some 0 else grd (inb (x4_4 + 2) 16) ((if (f_X10_mayChangeTo x3_3 (M 125 (x4_4 + 1).toNatClampNeg) (M 125 (x4_4 + 2).toNatClampNeg)) = 0 then some 0 else some 1))))))))) else grd (inb x2_2 6) (nm (61 + 1 + 3 * x2_2.toNatClampNeg) (fun a_26 => grd (inb x4_4 16) (bd (f_X6_hasMark fu a_26 (M 125 x4_4.toNatClampNeg) M) (fun r_29 => grd (isb r_29) (some r_29)))))))))))
def f_X7_asStored (fu : Nat) (p1 : Int32) (p2 : Int32) (M : Mem) : Option (Int32 × Mem) :=
  (if (f_X10_storeOf p1) = 1 then (if (f_X10_isNumber p2) = 0 then some (p2, M) else nm (if 0 < (if p2 < 99 then p2 else 99) then (if p2 < 99 then p2 else 99) else 0) (fun x3_3 => (if x3_3 = p2 then some (x3_3, M) else nm (up M 57 6 ((M 57 6) + 1)) (fun M_5 => some (x3_3, M_5))))) else some (p2, M))
def f_X3_hear_L2 (fu : Nat) (p1 : Int32) : Nat → Int32 → Mem → Option Mem
  | 0, _, _ => none
  | n_2 + 1, x2_1, M_2 =>
  (if (M_2 2 4) ≤ x2_1 then some M_2 else grd (inb x2_1 6) (nm (M_2 3 x2_1.toNatClampNeg).toNatClampNeg (fun e_5 => grd (kb 5 e_5) ((if (M_2 e_5 5) = p1 then nm (up M_2 e_5 9 (if ((M_2 1 1) - 1) < (M_2 e_5 9) then ((M_2 1 1) - 1) else (M_2 e_5 9))) (fun M_8 => grd (inb (M_8 e_5 6) 3) (nm (up M_8 e_5 10 (if ((M_8 1 0) + (M_8 4 (M_8 e_5 6).toNatClampNeg)) < (M_8 e_5 10) then ((M_8 1 0) + (M_8 4 (M_8 e_5 6).toNatClampNeg)) else (M_8 e_5 10))) (fun M_10 => nm (x2_1 + 1) (fun x2_11 => f_X3_hear_L2 fu p1 n_2 x2_11 M_10)))) else nm (x2_1 + 1) (fun x2_7 => f_X3_hear_L2 fu p1 n_2 x2_7 M_2))))))
def f_X3_hear (fu : Nat) (p1 : Int32) (M : Mem) : Option Mem :=
  f_X3_hear_L2 fu p1 fu 0 M
def f_X7_write (fu : Nat) (p1 : Int32) (M : Mem) : Option Mem :=
  nm (up M 1 1 ((M 1 1) + 1)) (fun M_1 => grd (inb p1 6) (nm (up M_1 60 p1.toNatClampNeg (M_1 1 1)) (fun M_3 => bd (f_X3_hear fu p1 M_3) (fun M_5 => bd (f_X3_sweep fu M_5) (fun M_7 => some M_7)))))
def f_X7_addRow (fu : Nat) (p1 : Int32) (p2 : Int32) (p3 : Int32) (p4 : Int32) (p5 : Int32) (M : Mem) : Option (Int32 × Mem) :=
  jn (fun (x6_2 : Int32) (M_3 : Mem) => grd (inb p1 6) (nm (61 + 1 + 3 * p1.toNatClampNeg) (fun a_5 => bm (f_X6_makePlace fu a_5 x6_2 M_3) (fun r_7 M_8 => nm (61 + 1 + 3 * p1.toNatClampNeg) (fun a_9 => bd (f_X6_putCell fu a_9 r_7 0 p2 M_8) (fun M_11 => nm (61 + 1 + 3 * p1.toNatClampNeg) (fun a_12 => bm (f_X7_asStored fu p1 p3 M_11) (fun r_14 M_15 => bd (f_X6_putCell fu a_12 r_7 1 r_14 M_15) (fun M_17 => nm (61 + 1 + 3 * p1.toNatClampNeg) (fun a_18 => bd (f_X6_putCell fu a_18 r_7 2 p4 M_17) (fun M_20 => nm (61 + 1 + 3 * p1.toNatClampNeg) (fun a_21 => bd (f_X6_putCell fu a_21 r_7 3 p5 M_20) (fun M_23 => bd (f_X7_write fu p1 M_23) (fun M_25 => some (x6_2, M_25))))))))))))))) (fun k28_1 => (if (f_X10_storeOf p1) = 0 then grd (inb p1 6) (nm (M 58 p1.toNatClampNeg) (fun x6_28 => nm (up M 58 p1.toNatClampNeg ((M 58 p1.toNatClampNeg) + 1)) (fun M_29 => k28_1 x6_28 M_29))) else k28_1 p2 M))
def f_X7_changeCell (fu : Nat) (p1 : Int32) (p2 : Int32) (p3 : Int32) (p4 : Int32) (M : Mem) : Option (Int32 × Mem) :=
  grd (inb p1 6) (nm (61 + 1 + 3 * p1.toNatClampNeg) (fun a_2 => bd (f_X6_placeOf fu a_2 p2 M) (fun r_4 => nm (61 + 1 + 3 * p1.toNatClampNeg) (fun a_5 => bd (f_X6_cellAt fu a_5 r_4 p3 M) (fun r_7 => nm (61 + 1 + 3 * p1.toNatClampNeg) (fun a_8 => bm (f_X7_asStored fu p1 p4 M) (fun r_10 M_11 => bd (f_X6_putCell fu a_8 r_4 p3 r_10 M_11) (fun M_13 => bd (f_X7_write fu p1 M_13) (fun M_15 => some (r_7, M_15))))))))))
def f_X7_removeRow (fu : Nat) (p1 : Int32) (p2 : Int32) (M : Mem) : Option Mem :=
  grd (inb p1 6) (nm (61 + 1 + 3 * p1.toNatClampNeg) (fun a_2 => nm (61 + 1 + 3 * p1.toNatClampNeg) (fun a_3 => bd (f_X6_placeOf fu a_3 p2 M) (fun r_5 => bd (f_X6_dropPlace fu a_2 r_5 M) (fun M_7 => bd (f_X7_write fu p1 M_7) (fun M_9 => some M_9))))))
def f_X2_doStep (fu : Nat) (p1 : Int32) (M : Mem) : Option Mem :=
  grd (inb p1 4) (nm (M 124 p1.toNatClampNeg) (fun x2_2 => nm (p1 * 4) (fun x3_3 => grd (inb x3_3 16) (nm (up M 127 p1.toNatClampNeg (M 125 x3_3.toNatClampNeg)) (fun M_5 => nm (up M_5 126 p1.toNatClampNeg 1) (fun M_6 => (if (M_6 123 p1.toNatClampNeg) = 0 then grd (inb (x3_3 + 1) 16) (grd (inb (x3_3 + 2) 16) (grd (inb (x3_3 + 3) 16) (bm (f_X7_addRow fu x2_2 (M_6 125 x3_3.toNatClampNeg) (M_6 125 (x3_3 + 1).toNatClampNeg) (M_6 125 (x3_3 + 2).toNatClampNeg) (M_6 125 (x3_3 + 3).toNatClampNeg) M_6) (fun r_12 M_13 => nm (up M_13 127 p1.toNatClampNeg r_12) (fun M_14 => some M_14))))) else (if (M_6 123 p1.toNatClampNeg) = 1 then grd (inb (x3_3 + 1) 16) (grd (inb (x3_3 + 2) 16) (bm (f_X7_changeCell fu x2_2 (M_6 127 p1.toNatClampNeg) (M_6 125 (x3_3 + 1).toNatClampNeg) (M_6 125 (x3_3 + 2).toNatClampNeg) M_6) (fun r_19 M_20 => nm (up M_20 128 p1.toNatClampNeg r_19) (fun M_21 => some M_21)))) else nm (129 + 1 + 3 * p1.toNatClampNeg) (fun a_22 => nm (up M_6 a_22 2 0) (fun M_23 => nm (129 + 1 + 3 * p1.toNatClampNeg) (fun a_24 => grd (inb x2_2 6) (nm (61 + 1 + 3 * x2_2.toNatClampNeg) (fun a_26 => nm (61 + 1 + 3 * x2_2.toNatClampNeg) (fun a_27 => bd (f_X6_placeOf fu a_27 (M_23 127 p1.toNatClampNeg) M_23) (fun r_29 => bd (f_X6_takeRow fu a_24 a_26 r_29 M_23) (fun M_31 => bd (f_X7_removeRow fu x2_2 (M_31 127 p1.toNatClampNeg) M_31) (fun M_33 => some M_33)))))))))))))))))
def f_X2_request_L12 (fu : Nat) (p1 : Int32) (x2_2 : Int32) : Nat → Int32 → Mem → Option (Int32 × Mem)
  | 0, _, _ => none
  | n_12 + 1, x3_3, M_4 =>
  (if 3 ≤ x3_3 then some (0, M_4) else bd (f_X8_awaitQuota fu x2_2 M_4) (fun M_7 => bm (f_X8_attempt fu x2_2 M_7) (fun r_9 M_10 => grd (inb p1 4) (jn (fun (M_13 : Mem) => (if r_9 = 0 then nm (x3_3 + 1) (fun x3_15 => f_X2_request_L12 fu p1 x2_2 n_12 x3_15 M_13) else grd (isb (M_13 126 p1.toNatClampNeg)) (some ((M_13 126 p1.toNatClampNeg), M_13)))) (fun k74_12 => (if (M_10 126 p1.toNatClampNeg) = 0 then jn (fun (_ : Unit) => bd (f_X2_canStep fu p1 M_10) (fun r_20 => (if r_20 = 0 then k74_12 M_10 else bd (f_X2_doStep fu p1 M_10) (fun M_23 => k74_12 M_23)))) (fun k61_18 => (if r_9 = 0 then grd (inb x2_2 3) ((if (M_10 53 x2_2.toNatClampNeg) = 0 then k74_12 M_10 else k61_18 ())) else k61_18 ())) else k74_12 M_10))))))
def f_X2_request (fu : Nat) (p1 : Int32) (M : Mem) : Option (Int32 × Mem) :=
  grd (inb p1 4) (nm (f_X10_storeOf (M 124 p1.toNatClampNeg)) (fun x2_2 => f_X2_request_L12 fu p1 x2_2 fu 0 M))
def f_X7_bringBack (fu : Nat) (p1 : Int32) (a2 : Nat) (M : Mem) : Option Mem :=
  grd (inb p1 6) (nm (61 + 1 + 3 * p1.toNatClampNeg) (fun a_2 => bd (f_X6_takeRow fu a_2 a2 0 M) (fun M_4 => bd (f_X7_write fu p1 M_4) (fun M_6 => some M_6))))
def f_X2_takeBack (fu : Nat) (p1 : Int32) (M : Mem) : Option Mem :=
  grd (inb p1 4) (nm (M 124 p1.toNatClampNeg) (fun x2_2 => (if (M 123 p1.toNatClampNeg) = 0 then bd (f_X7_removeRow fu x2_2 (M 127 p1.toNatClampNeg) M) (fun M_5 => some M_5) else (if (M 123 p1.toNatClampNeg) = 1 then grd (inb ((p1 * 4) + 1) 16) (bm (f_X7_changeCell fu x2_2 (M 127 p1.toNatClampNeg) (M 125 ((p1 * 4) + 1).toNatClampNeg) (M 128 p1.toNatClampNeg) M) (fun r_9 M_10 => some M_10)) else nm (129 + 1 + 3 * p1.toNatClampNeg) (fun a_11 => bd (f_X7_bringBack fu x2_2 a_11 M) (fun M_13 => some M_13))))))
def f_X2_takeAllBack_L2 (fu : Nat) : Nat → Int32 → Mem → Option Mem
  | 0, _, _ => none
  | n_2 + 1, x2_1, M_2 =>
  (if x2_1 < 0 then some M_2 else grd (inb x2_1 4) ((if (M_2 126 x2_1.toNatClampNeg) = 0 then nm (x2_1 + (-1)) (fun x2_6 => f_X2_takeAllBack_L2 fu n_2 x2_6 M_2) else bd (f_X2_takeBack fu x2_1 M_2) (fun M_8 => nm (x2_1 + (-1)) (fun x2_9 => f_X2_takeAllBack_L2 fu n_2 x2_9 M_8)))))
def f_X2_takeAllBack (fu : Nat) (p1 : Int32) (M : Mem) : Option Mem :=
  f_X2_takeAllBack_L2 fu fu p1 M
def f_X2_runSteps_L12 (fu : Nat) (x1_1 : Int32) : Nat → Int32 → Mem → Option (Int32 × Mem)
  | 0, _, _ => none
  | n_12 + 1, x2_3, M_4 =>
  (if x1_1 ≤ x2_3 then some ((-1), M_4) else bm (f_X2_request fu x2_3 M_4) (fun r_7 M_8 => (if r_7 = 0 then bd (f_X2_takeAllBack fu x2_3 M_8) (fun M_12 => some (x2_3, M_12)) else nm (x2_3 + 1) (fun x2_10 => f_X2_runSteps_L12 fu x1_1 n_12 x2_10 M_8))))
def f_X2_runSteps (fu : Nat) (M : Mem) : Option (Int32 × Mem) :=
  nm (M 122 9) (fun x1_1 => nm (up M 122 9 0) (fun M_2 => f_X2_runSteps_L12 fu x1_1 fu 0 M_2))
def f_X4_hasColumn (fu : Nat) (p1 : Int32) (p2 : Int32) (M : Mem) : Option Int32 :=
  (if p1 < 0 then some 0 else (if (M 80 9) ≤ p1 then some 0 else (if p2 < 0 then some 0 else grd (inb p1 3) ((if (f_X10_columnsIn (f_X10_storeOf (M 81 p1.toNatClampNeg))) ≤ p2 then some 0 else some 1)))))
def f_X4_isQuery (fu : Nat) (M : Mem) : Option Int32 :=
  (if (M 80 9) ≤ 0 then some 0 else (if (M 80 12) ≤ 0 then some 0 else some 1))
def f_X4_addSeat (fu : Nat) (p1 : Int32) (M : Mem) : Option (Int32 × Mem) :=
  grd (inb (M 80 9) 3) (nm (up M 81 (M 80 9).toNatClampNeg p1) (fun M_2 => nm (up M_2 80 9 ((M_2 80 9) + 1)) (fun M_3 => some (((M_3 80 9) - 1), M_3))))
def f_X4_addLink (fu : Nat) (p1 : Int32) (p2 : Int32) (p3 : Int32) (p4 : Int32) (M : Mem) : Option (Int32 × Mem) :=
  nm (2 * (M 80 10)) (fun x5_1 => grd (inb x5_1 6) (nm (up M 82 x5_1.toNatClampNeg p1) (fun M_3 => nm (up M_3 83 x5_1.toNatClampNeg p2) (fun M_4 => grd (inb (x5_1 + 1) 6) (nm (up M_4 82 (x5_1 + 1).toNatClampNeg p3) (fun M_6 => nm (up M_6 83 (x5_1 + 1).toNatClampNeg p4) (fun M_7 => nm (up M_7 80 10 ((M_7 80 10) + 1)) (fun M_8 => some ((M_8 80 10), M_8)))))))))
def f_X4_addCondition (fu : Nat) (p1 : Int32) (p2 : Int32) (p3 : Int32) (p4 : Int32) (M : Mem) : Option (Int32 × Mem) :=
  grd (inb (M 80 11) 4) (nm (up M 84 (M 80 11).toNatClampNeg p1) (fun M_2 => grd (inb (M_2 80 11) 4) (nm (up M_2 85 (M_2 80 11).toNatClampNeg p2) (fun M_4 => grd (inb (M_4 80 11) 4) (nm (up M_4 86 (M_4 80 11).toNatClampNeg p3) (fun M_6 => grd (inb (M_6 80 11) 4) (nm (up M_6 87 (M_6 80 11).toNatClampNeg p4) (fun M_8 => nm (up M_8 80 11 ((M_8 80 11) + 1)) (fun M_9 => some ((M_9 80 11), M_9))))))))))
def f_X4_addOutput (fu : Nat) (p1 : Int32) (p2 : Int32) (M : Mem) : Option (Int32 × Mem) :=
  grd (inb (M 80 12) 3) (nm (up M 88 (M 80 12).toNatClampNeg p1) (fun M_2 => grd (inb (M_2 80 12) 3) (nm (up M_2 89 (M_2 80 12).toNatClampNeg p2) (fun M_4 => nm (up M_4 80 12 ((M_4 80 12) + 1)) (fun M_5 => some ((M_5 80 12), M_5))))))
def f_X4_makeEmpty (fu : Nat) (M : Mem) : Option Mem :=
  nm (up M 80 9 0) (fun M_1 => nm (up M_1 80 10 0) (fun M_2 => nm (up M_2 80 11 0) (fun M_3 => nm (up M_3 80 12 0) (fun M_4 => nm (up M_4 80 13 40) (fun M_5 => nm (up M_5 80 14 0) (fun M_6 => some M_6))))))
def f_X10_losses (fu : Nat) (M : Mem) : Option Int32 :=
  some (M 57 6)
def f_X10_moment (fu : Nat) (M : Mem) : Option Int32 :=
  some (M 1 1)
def f_X10_now (fu : Nat) (M : Mem) : Option Int32 :=
  some (M 1 0)
def f_X10_clear (fu : Nat) (M : Mem) : Option (Int32 × Mem) :=
  nm (M 80 9) (fun x1_1 => bd (f_X4_makeEmpty fu M) (fun M_3 => some (x1_1, M_3)))
def f_X10_answers (fu : Nat) (M : Mem) : Option Int32 :=
  some (M 90 5)
def f_X10_missing (fu : Nat) (M : Mem) : Option Int32 :=
  some (M 90 7)
def f_X10_claims (fu : Nat) (M : Mem) : Option Int32 :=
  some (M 90 8)
def f_X10_cost (fu : Nat) (M : Mem) : Option Int32 :=
  some (M 90 9)
def f_X10_attempts (fu : Nat) (M : Mem) : Option Int32 :=
  some (M 90 10)
def f_X10_shipped (fu : Nat) (M : Mem) : Option Int32 :=
  some (M 90 11)
def f_X10_entries (fu : Nat) (M : Mem) : Option Int32 :=
  some (M 2 4)
def f_X10_makeAnew_L2 (fu : Nat) (k60_1 : Mem → Option Mem) : Nat → Int32 → Mem → Option Mem
  | 0, _, _ => none
  | n_2 + 1, x1_5, M_6 =>
  (if (M_6 80 9) ≤ x1_5 then k60_1 M_6 else grd (inb x1_5 3) (nm (110 + 1 + 3 * x1_5.toNatClampNeg) (fun a_9 => grd (inb (M_6 81 x1_5.toNatClampNeg) 6) (nm (61 + 1 + 3 * (M_6 81 x1_5.toNatClampNeg).toNatClampNeg) (fun a_11 => bd (f_X6_copy fu a_9 a_11 M_6) (fun M_13 => bd (f_X0_keepWhatHolds fu 105 x1_5 M_13) (fun M_15 => nm (x1_5 + 1) (fun x1_16 => f_X10_makeAnew_L2 fu k60_1 n_2 x1_16 M_15))))))))
def f_X10_makeAnew (fu : Nat) (M : Mem) : Option Mem :=
  jn (fun (M_2 : Mem) => bd (f_X0_make fu 105 M_2) (fun M_4 => some M_4)) (fun k60_1 => f_X10_makeAnew_L2 fu k60_1 fu 0 M)
def f_X11_thrown (fu : Nat) (M : Mem) : Option Int32 :=
  some (M 0 0)
def f_X11_placeOf_L5 (fu : Nat) (p1 : Int32) (p2 : Int32) (M : Mem) : Nat → Int32 → Int32 → Option Int32
  | 0, _, _ => none
  | n_5 + 1, x3_1, x4_2 =>
  grd (inb p1 6) ((if (M 1 p1.toNatClampNeg) ≤ x4_2 then some x3_1 else grd (inb ((12 * p1) + x4_2) 72) ((if (M 2 ((12 * p1) + x4_2).toNatClampNeg) = p2 then nm (x4_2 + 1) (fun x4_8 => f_X11_placeOf_L5 fu p1 p2 M n_5 x4_2 x4_8) else nm (x4_2 + 1) (fun x4_7 => f_X11_placeOf_L5 fu p1 p2 M n_5 x3_1 x4_7)))))
def f_X11_placeOf (fu : Nat) (p1 : Int32) (p2 : Int32) (M : Mem) : Option Int32 :=
  f_X11_placeOf_L5 fu p1 p2 M fu (-1) 0
def f_X11_moves_L158 (fu : Nat) (p1 : Int32) (p2 : Int32) : Nat → Int32 → Mem → Option Mem
  | 0, _, _ => none
  | n_158 + 1, x3_14, M_15 =>
  (if 4 ≤ x3_14 then some M_15 else grd (inb ((4 * p1) + x3_14) 24) (grd (inb ((4 * p2) + x3_14) 24) (nm (up M_15 39 ((4 * p2) + x3_14).toNatClampNeg (M_15 39 ((4 * p1) + x3_14).toNatClampNeg)) (fun M_19 => nm (up M_19 40 ((4 * p2) + x3_14).toNatClampNeg (M_19 40 ((4 * p1) + x3_14).toNatClampNeg)) (fun M_20 => nm (up M_20 41 ((4 * p2) + x3_14).toNatClampNeg (M_20 41 ((4 * p1) + x3_14).toNatClampNeg)) (fun M_21 => nm (x3_14 + 1) (fun x3_22 => f_X11_moves_L158 fu p1 p2 n_158 x3_22 M_21)))))))
def f_X11_moves_L122 (fu : Nat) (p1 : Int32) (p2 : Int32) (k156_12 : Mem → Option Mem) : Nat → Int32 → Mem → Option Mem
  | 0, _, _ => none
  | n_122 + 1, x3_23, M_24 =>
  (if 48 ≤ x3_23 then k156_12 M_24 else grd (inb ((48 * p1) + x3_23) 288) (grd (inb ((48 * p2) + x3_23) 288) (nm (up M_24 37 ((48 * p2) + x3_23).toNatClampNeg (M_24 37 ((48 * p1) + x3_23).toNatClampNeg)) (fun M_28 => nm (x3_23 + 1) (fun x3_29 => f_X11_moves_L122 fu p1 p2 k156_12 n_122 x3_29 M_28)))))
def f_X11_moves_L86 (fu : Nat) (p1 : Int32) (p2 : Int32) (k120_10 : Mem → Option Mem) : Nat → Int32 → Mem → Option Mem
  | 0, _, _ => none
  | n_86 + 1, x3_30, M_31 =>
  (if 12 ≤ x3_30 then k120_10 M_31 else grd (inb ((12 * p1) + x3_30) 72) (grd (inb ((12 * p2) + x3_30) 72) (nm (up M_31 36 ((12 * p2) + x3_30).toNatClampNeg (M_31 36 ((12 * p1) + x3_30).toNatClampNeg)) (fun M_35 => nm (x3_30 + 1) (fun x3_36 => f_X11_moves_L86 fu p1 p2 k120_10 n_86 x3_36 M_35)))))
def f_X11_moves (fu : Nat) (p1 : Int32) (p2 : Int32) (M : Mem) : Option Mem :=
  grd (inb p1 6) (grd (inb p2 6) (nm (up M 30 p2.toNatClampNeg (M 30 p1.toNatClampNeg)) (fun M_3 => nm (up M_3 31 p2.toNatClampNeg (M_3 31 p1.toNatClampNeg)) (fun M_4 => nm (up M_4 32 p2.toNatClampNeg (M_4 32 p1.toNatClampNeg)) (fun M_5 => nm (up M_5 33 p2.toNatClampNeg (M_5 33 p1.toNatClampNeg)) (fun M_6 => nm (up M_6 34 p2.toNatClampNeg (M_6 34 p1.toNatClampNeg)) (fun M_7 => nm (up M_7 35 p2.toNatClampNeg (M_7 35 p1.toNatClampNeg)) (fun M_8 => nm (up M_8 38 p2.toNatClampNeg (M_8 38 p1.toNatClampNeg)) (fun M_9 => jn (fun (M_11 : Mem) => jn (fun (M_13 : Mem) => f_X11_moves_L158 fu p1 p2 fu 0 M_13) (fun k156_12 => f_X11_moves_L122 fu p1 p2 k156_12 fu 0 M_11)) (fun k120_10 => f_X11_moves_L86 fu p1 p2 k120_10 fu 0 M_9))))))))))
def f_X11_drops_L4 (fu : Nat) (k88_1 : Int32 → Mem → Option Mem) : Nat → Int32 → Int32 → Mem → Option Mem
  | 0, _, _, _ => none
  | n_4 + 1, x1_5, x2_6, M_7 =>
  (if (M_7 0 39) ≤ x2_6 then k88_1 x1_5 M_7 else grd (inb x2_6 6) (jn (fun (v_11 : Int32) => (if v_11 = 0 then bd (f_X11_moves fu x2_6 x1_5 M_7) (fun M_15 => nm (x1_5 + 1) (fun x1_16 => nm (x2_6 + 1) (fun x2_17 => f_X11_drops_L4 fu k88_1 n_4 x1_16 x2_17 M_15))) else nm (x2_6 + 1) (fun x2_13 => f_X11_drops_L4 fu k88_1 n_4 x1_5 x2_13 M_7))) (fun k68_10 => jn (fun (_ : Unit) => k68_10 1) (fun k63_18 => jn (fun (_ : Unit) => grd (inb (f_X11_storeOf (M_7 30 x2_6.toNatClampNeg)) 3) ((if ((M_7 0 8) - (M_7 31 x2_6.toNatClampNeg)) ≤ (M_7 10 (f_X11_storeOf (M_7 30 x2_6.toNatClampNeg)).toNatClampNeg) then k68_10 0 else k63_18 ()))) (fun k35_19 => (if (M_7 34 x2_6.toNatClampNeg) = (-1) then k35_19 () else (if (M_7 34 x2_6.toNatClampNeg) ≤ (M_7 0 8) then k63_18 () else k35_19 ())))))))
def f_X11_drops (fu : Nat) (M : Mem) : Option Mem :=
  jn (fun (x1_2 : Int32) (M_3 : Mem) => nm (up M_3 0 39 x1_2) (fun M_4 => some M_4)) (fun k88_1 => f_X11_drops_L4 fu k88_1 fu 0 0 M)
def f_X11_writes_L22 (fu : Nat) (p1 : Int32) (k128_4 : Mem → Option Mem) : Nat → Int32 → Mem → Option Mem
  | 0, _, _ => none
  | n_22 + 1, x2_8, M_9 =>
  (if (M_9 0 39) ≤ x2_8 then k128_4 M_9 else grd (inb x2_8 6) ((if (M_9 30 x2_8.toNatClampNeg) = p1 then grd (inb (f_X11_storeOf p1) 3) (nm ((M_9 0 8) + (M_9 7 (f_X11_storeOf p1).toNatClampNeg)) (fun x3_15 => nm ((if (M_9 33 x2_8.toNatClampNeg) = (-1) then ((M_9 0 7) - 1) else (M_9 33 x2_8.toNatClampNeg)) : Int32) (fun v_17 => nm (up M_9 33 x2_8.toNatClampNeg v_17) (fun M_18 => nm ((if (M_18 34 x2_8.toNatClampNeg) = (-1) then x3_15 else (if (M_18 34 x2_8.toNatClampNeg) ≤ x3_15 then (M_18 34 x2_8.toNatClampNeg) else x3_15)) : Int32) (fun v_21 => nm (up M_18 34 x2_8.toNatClampNeg v_21) (fun M_22 => nm (x2_8 + 1) (fun x2_23 => f_X11_writes_L22 fu p1 k128_4 n_22 x2_23 M_22))))))) else nm (x2_8 + 1) (fun x2_13 => f_X11_writes_L22 fu p1 k128_4 n_22 x2_13 M_9))))
def f_X11_writes (fu : Nat) (p1 : Int32) (M : Mem) : Option Mem :=
  nm (up M 0 7 ((M 0 7) + 1)) (fun M_1 => grd (inb p1 6) (nm (up M_1 5 p1.toNatClampNeg (M_1 0 7)) (fun M_3 => jn (fun (M_5 : Mem) => bd (f_X11_drops fu M_5) (fun M_7 => some M_7)) (fun k128_4 => f_X11_writes_L22 fu p1 k128_4 fu 0 M_3))))
def f_X11_inserts_L59 (fu : Nat) (x8_25 : Int32) (k97_29 : Mem → Option Mem) : Nat → Int32 → Mem → Option Mem
  | 0, _, _ => none
  | n_59 + 1, x9_32, M_33 =>
  (if 4 ≤ x9_32 then k97_29 M_33 else grd (inb ((4 * (x8_25 - 1)) + x9_32) 288) (grd (inb ((4 * x8_25) + x9_32) 288) (nm (up M_33 3 ((4 * x8_25) + x9_32).toNatClampNeg (M_33 3 ((4 * (x8_25 - 1)) + x9_32).toNatClampNeg)) (fun M_37 => nm (x9_32 + 1) (fun x9_38 => f_X11_inserts_L59 fu x8_25 k97_29 n_59 x9_38 M_37)))))
def f_X11_inserts_L8 (fu : Nat) (p1 : Int32) (p2 : Int32) (k103_3 : Int32 → Mem → Option Mem) : Nat → Int32 → Mem → Option Mem
  | 0, _, _ => none
  | n_8 + 1, x7_20, M_21 =>
  (if x7_20 ≤ 0 then k103_3 x7_20 M_21 else grd (inb (((12 * p1) + x7_20) - 1) 72) ((if (M_21 2 (((12 * p1) + x7_20) - 1).toNatClampNeg) ≤ p2 then k103_3 x7_20 M_21 else nm ((12 * p1) + x7_20) (fun x8_25 => grd (inb (x8_25 - 1) 72) (grd (inb x8_25 72) (nm (up M_21 2 x8_25.toNatClampNeg (M_21 2 (x8_25 - 1).toNatClampNeg)) (fun M_28 => jn (fun (M_30 : Mem) => nm (x7_20 + (-1)) (fun x7_31 => f_X11_inserts_L8 fu p1 p2 k103_3 n_8 x7_31 M_30)) (fun k97_29 => f_X11_inserts_L59 fu x8_25 k97_29 fu 0 M_28))))))))
def f_X11_inserts (fu : Nat) (p1 : Int32) (p2 : Int32) (p3 : Int32) (p4 : Int32) (p5 : Int32) (p6 : Int32) (M : Mem) : Option Mem :=
  grd (inb p1 6) (nm (M 1 p1.toNatClampNeg) (fun x7_2 => jn (fun (x7_4 : Int32) (M_5 : Mem) => nm ((12 * p1) + x7_4) (fun x8_6 => grd (inb x8_6 72) (nm (up M_5 2 x8_6.toNatClampNeg p2) (fun M_8 => grd (inb (4 * x8_6) 288) (nm (up M_8 3 (4 * x8_6).toNatClampNeg p3) (fun M_10 => grd (inb ((4 * x8_6) + 1) 288) (nm (up M_10 3 ((4 * x8_6) + 1).toNatClampNeg p4) (fun M_12 => grd (inb ((4 * x8_6) + 2) 288) (nm (up M_12 3 ((4 * x8_6) + 2).toNatClampNeg p5) (fun M_14 => grd (inb ((4 * x8_6) + 3) 288) (nm (up M_14 3 ((4 * x8_6) + 3).toNatClampNeg p6) (fun M_16 => nm (up M_16 1 p1.toNatClampNeg ((M_16 1 p1.toNatClampNeg) + 1)) (fun M_17 => bd (f_X11_writes fu p1 M_17) (fun M_19 => some M_19)))))))))))))) (fun k103_3 => f_X11_inserts_L8 fu p1 p2 k103_3 fu x7_2 M)))
def f_X11_takesOut_L59 (fu : Nat) (x5_13 : Int32) (k97_17 : Mem → Option Mem) : Nat → Int32 → Mem → Option Mem
  | 0, _, _ => none
  | n_59 + 1, x6_20, M_21 =>
  (if 4 ≤ x6_20 then k97_17 M_21 else grd (inb ((4 * (x5_13 + 1)) + x6_20) 288) (grd (inb ((4 * x5_13) + x6_20) 288) (nm (up M_21 3 ((4 * x5_13) + x6_20).toNatClampNeg (M_21 3 ((4 * (x5_13 + 1)) + x6_20).toNatClampNeg)) (fun M_25 => nm (x6_20 + 1) (fun x6_26 => f_X11_takesOut_L59 fu x5_13 k97_17 n_59 x6_26 M_25)))))
def f_X11_takesOut_L20 (fu : Nat) (p1 : Int32) (k103_5 : Mem → Option Mem) : Nat → Int32 → Mem → Option Mem
  | 0, _, _ => none
  | n_20 + 1, x4_9, M_10 =>
  grd (inb p1 6) ((if (M_10 1 p1.toNatClampNeg) ≤ x4_9 then k103_5 M_10 else nm ((12 * p1) + x4_9) (fun x5_13 => grd (inb (x5_13 + 1) 72) (grd (inb x5_13 72) (nm (up M_10 2 x5_13.toNatClampNeg (M_10 2 (x5_13 + 1).toNatClampNeg)) (fun M_16 => jn (fun (M_18 : Mem) => nm (x4_9 + 1) (fun x4_19 => f_X11_takesOut_L20 fu p1 k103_5 n_20 x4_19 M_18)) (fun k97_17 => f_X11_takesOut_L59 fu x5_13 k97_17 fu 0 M_16)))))))
def f_X11_takesOut (fu : Nat) (p1 : Int32) (p2 : Int32) (M : Mem) : Option Mem :=
  bd (f_X11_placeOf fu p1 p2 M) (fun r_2 => grd (inb p1 6) (nm (up M 1 p1.toNatClampNeg ((M 1 p1.toNatClampNeg) - 1)) (fun M_4 => jn (fun (M_6 : Mem) => bd (f_X11_writes fu p1 M_6) (fun M_8 => some M_8)) (fun k103_5 => f_X11_takesOut_L20 fu p1 k103_5 fu r_2 M_4))))
def f_X11_kept (fu : Nat) (p1 : Int32) (p2 : Int32) (p3 : Int32) (M : Mem) : Option (Int32 × Mem) :=
  (if (f_X11_storeOf p1) = 1 then (if p2 = 1 then (if (f_X11_isNumber p3) = 0 then some (p3, M) else nm ((if 0 ≤ p3 then (if p3 ≤ 99 then p3 else 99) else 0) : Int32) (fun v_6 => nm ((if v_6 = p3 then 0 else 1) : Int32) (fun v_8 => nm (up M 0 6 ((M 0 6) + v_8)) (fun M_9 => some (v_6, M_9))))) else some (p3, M)) else some (p3, M))
def f_X11_canAdd (fu : Nat) (p1 : Int32) (p2 : Int32) (p3 : Int32) (p4 : Int32) (p5 : Int32) (M : Mem) : Option Int32 :=
  (if (f_X11_isCell p1 0 p2) = 0 then some 2 else (if (f_X11_isCell p1 1 p3) = 0 then some 2 else (if (f_X11_isCell p1 2 p4) = 0 then some 2 else (if (f_X11_isCell p1 3 p5) = 0 then some 2 else grd (inb p1 6) ((if (M 1 p1.toNatClampNeg) = 12 then some 3 else jn (fun (_ : Unit) => (if 2 ≤ p1 then some 0 else (if (M 4 p1.toNatClampNeg) = 60 then some 3 else some 0))) (fun k66_7 => (if p1 ≤ 1 then k66_7 () else bd (f_X11_placeOf fu p1 p2 M) (fun r_12 => (if r_12 = (-1) then k66_7 () else some 3))))))))))
def f_X11_adds (fu : Nat) (p1 : Int32) (p2 : Int32) (p3 : Int32) (p4 : Int32) (p5 : Int32) (M : Mem) : Option (Int32 × Mem) :=
  jn (fun (v_2 : Int32) => grd (inb p1 6) (nm ((if p1 ≤ 1 then 1 else 0) : Int32) (fun v_5 => nm (up M 4 p1.toNatClampNeg ((M 4 p1.toNatClampNeg) + v_5)) (fun M_6 => bm (f_X11_kept fu p1 1 p3 M_6) (fun r_8 M_9 => bd (f_X11_inserts fu p1 v_2 p2 r_8 p4 p5 M_9) (fun M_11 => some (v_2, M_11))))))) (fun k15_1 => (if p1 ≤ 1 then grd (inb p1 6) (k15_1 (M 4 p1.toNatClampNeg)) else k15_1 p2))
def f_X11_add (fu : Nat) (p1 : Int32) (p2 : Int32) (p3 : Int32) (p4 : Int32) (p5 : Int32) (M : Mem) : Option (Int32 × Mem) :=
  jn (fun (v_2 : Int32) => nm (up M 0 0 v_2) (fun M_3 => (if (M_3 0 0) ≤ 0 then bm (f_X11_adds fu p1 p2 p3 p4 p5 M_3) (fun r_6 M_7 => some (r_6, M_7)) else some (0, M_3)))) (fun k23_1 => (if (f_X11_isSource p1) = 0 then k23_1 1 else bd (f_X11_canAdd fu p1 p2 p3 p4 p5 M) (fun r_10 => k23_1 r_10)))
def f_X11_canChange (fu : Nat) (p1 : Int32) (p2 : Int32) (p3 : Int32) (p4 : Int32) (M : Mem) : Option Int32 :=
  bd (f_X11_placeOf fu p1 p2 M) (fun r_2 => (if r_2 = (-1) then some 1 else (if (f_X11_isColumn p1 p3) = 0 then some 1 else jn (fun (_ : Unit) => (if (f_X11_isCell p1 p3 p4) = 0 then some 2 else some 0)) (fun k29_5 => (if p1 ≤ 1 then k29_5 () else (if p3 = 0 then some 2 else k29_5 ()))))))
def f_X11_puts (fu : Nat) (p1 : Int32) (p2 : Int32) (p3 : Int32) (p4 : Int32) (M : Mem) : Option (Int32 × Mem) :=
  bd (f_X11_placeOf fu p1 p2 M) (fun r_2 => nm ((4 * ((12 * p1) + r_2)) + p3) (fun x5_3 => grd (inb x5_3 288) (nm (M 3 x5_3.toNatClampNeg) (fun x6_5 => nm (up M 3 x5_3.toNatClampNeg p4) (fun M_6 => bd (f_X11_writes fu p1 M_6) (fun M_8 => some (x6_5, M_8)))))))
def f_X11_change (fu : Nat) (p1 : Int32) (p2 : Int32) (p3 : Int32) (p4 : Int32) (M : Mem) : Option (Int32 × Mem) :=
  jn (fun (v_2 : Int32) => nm (up M 0 0 v_2) (fun M_3 => (if (M_3 0 0) ≤ 0 then bm (f_X11_kept fu p1 p3 p4 M_3) (fun r_6 M_7 => bm (f_X11_puts fu p1 p2 p3 r_6 M_7) (fun r_9 M_10 => some (r_9, M_10))) else some (0, M_3)))) (fun k21_1 => (if (f_X11_isSource p1) = 0 then k21_1 1 else bd (f_X11_canChange fu p1 p2 p3 p4 M) (fun r_13 => k21_1 r_13)))
def f_X11_remove (fu : Nat) (p1 : Int32) (p2 : Int32) (M : Mem) : Option (Int32 × Mem) :=
  jn (fun (v_2 : Int32) => nm (up M 0 0 v_2) (fun M_3 => (if (M_3 0 0) ≤ 0 then bd (f_X11_takesOut fu p1 p2 M_3) (fun M_6 => grd (inb p1 6) (some ((M_6 1 p1.toNatClampNeg), M_6))) else some (0, M_3)))) (fun k23_1 => jn (fun (_ : Unit) => k23_1 1) (fun k18_8 => (if (f_X11_isSource p1) = 0 then k18_8 () else bd (f_X11_placeOf fu p1 p2 M) (fun r_11 => (if r_11 = (-1) then k18_8 () else k23_1 0)))))
def f_X11_count (fu : Nat) (p1 : Int32) (M : Mem) : Option (Int32 × Mem) :=
  nm ((if (f_X11_isSource p1) = 0 then 1 else 0) : Int32) (fun v_2 => nm (up M 0 0 v_2) (fun M_3 => (if (M_3 0 0) ≤ 0 then grd (inb p1 6) (some ((M_3 1 p1.toNatClampNeg), M_3)) else some (0, M_3))))
def f_X11_cell (fu : Nat) (p1 : Int32) (p2 : Int32) (p3 : Int32) (M : Mem) : Option (Int32 × Mem) :=
  jn (fun (v_2 : Int32) => nm (up M 0 0 v_2) (fun M_3 => (if (M_3 0 0) ≤ 0 then bd (f_X11_placeOf fu p1 p2 M_3) (fun r_6 => grd (inb ((4 * ((12 * p1) + r_6)) + p3) 288) (some ((M_3 3 ((4 * ((12 * p1) + r_6)) + p3).toNatClampNeg), M_3))) else some (0, M_3)))) (fun k31_1 => jn (fun (_ : Unit) => k31_1 1) (fun k26_8 => (if (f_X11_isSource p1) = 0 then k26_8 () else bd (f_X11_placeOf fu p1 p2 M) (fun r_11 => (if r_11 = (-1) then k26_8 () else (if (f_X11_isColumn p1 p3) = 0 then k26_8 () else k31_1 0))))))
def f_X11_losses (fu : Nat) (M : Mem) : Option (Int32 × Mem) :=
  nm (up M 0 0 0) (fun M_1 => some ((M_1 0 6), M_1))
def f_X11_moment (fu : Nat) (M : Mem) : Option (Int32 × Mem) :=
  nm (up M 0 0 0) (fun M_1 => some ((M_1 0 7), M_1))
def f_X11_setPace (fu : Nat) (p1 : Int32) (p2 : Int32) (p3 : Int32) (M : Mem) : Option (Int32 × Mem) :=
  nm ((if (f_X11_isStore p1) = 0 then 1 else (if (f_X11_in p2 0 30) = 0 then 2 else (if (f_X11_in p3 0 60) = 0 then 2 else 0))) : Int32) (fun v_4 => nm (up M 0 0 v_4) (fun M_5 => (if (M_5 0 0) ≤ 0 then grd (inb p1 3) (nm (M_5 6 p1.toNatClampNeg) (fun x4_8 => nm (up M_5 6 p1.toNatClampNeg p2) (fun M_9 => nm (up M_9 7 p1.toNatClampNeg p3) (fun M_10 => some (x4_8, M_10))))) else some (0, M_5))))
def f_X11_setBounds (fu : Nat) (p1 : Int32) (p2 : Int32) (p3 : Int32) (M : Mem) : Option (Int32 × Mem) :=
  nm ((if (f_X11_isStore p1) = 0 then 1 else (if (f_X11_in p2 1 20) = 0 then 2 else (if (f_X11_in p3 0 12) = 0 then 2 else 0))) : Int32) (fun v_4 => nm (up M 0 0 v_4) (fun M_5 => (if (M_5 0 0) ≤ 0 then grd (inb p1 3) (nm (M_5 8 p1.toNatClampNeg) (fun x4_8 => nm (up M_5 8 p1.toNatClampNeg p2) (fun M_9 => nm (up M_9 9 p1.toNatClampNeg p3) (fun M_10 => some (x4_8, M_10))))) else some (0, M_5))))
def f_X11_setLease (fu : Nat) (p1 : Int32) (p2 : Int32) (M : Mem) : Option (Int32 × Mem) :=
  nm ((if (f_X11_isStore p1) = 0 then 1 else (if (f_X11_in p2 0 200) = 0 then 2 else 0)) : Int32) (fun v_3 => nm (up M 0 0 v_3) (fun M_4 => (if (M_4 0 0) ≤ 0 then grd (inb p1 3) (nm (M_4 10 p1.toNatClampNeg) (fun x3_7 => nm (up M_4 10 p1.toNatClampNeg p2) (fun M_8 => bd (f_X11_drops fu M_8) (fun M_10 => some (x3_7, M_10))))) else some (0, M_4))))
def f_X11_fail (fu : Nat) (p1 : Int32) (p2 : Int32) (p3 : Int32) (M : Mem) : Option (Int32 × Mem) :=
  nm ((if (f_X11_isStore p1) = 0 then 1 else (if (f_X11_in p2 0 20) = 0 then 2 else 0)) : Int32) (fun v_3 => nm (up M 0 0 v_3) (fun M_4 => (if (M_4 0 0) ≤ 0 then grd (inb p1 3) (nm (M_4 11 p1.toNatClampNeg) (fun x4_7 => nm (up M_4 11 p1.toNatClampNeg p2) (fun M_8 => grd (isb p3) (nm (up M_8 12 p1.toNatClampNeg p3) (fun M_10 => some (x4_7, M_10)))))) else some (0, M_4))))
def f_X11_isForbidden (fu : Nat) (p1 : Int32) (p2 : Int32) (M : Mem) : Option Int32 :=
  grd (inb p1 6) ((if (((M 17 p1.toNatClampNeg) >>> (p2 &&& 31)) &&& 1) = 1 then some 1 else some 0))
def f_X11_forbid (fu : Nat) (p1 : Int32) (p2 : Int32) (p3 : Int32) (M : Mem) : Option (Int32 × Mem) :=
  nm ((if (f_X11_isSource p1) = 0 then 1 else (if (f_X11_isStore p2) = 0 then 1 else 0)) : Int32) (fun v_3 => nm (up M 0 0 v_3) (fun M_4 => (if (M_4 0 0) ≤ 0 then bd (f_X11_isForbidden fu p1 p2 M_4) (fun r_7 => jn (fun (v_9 : Int32) => grd (inb p1 6) (nm (up M_4 17 p1.toNatClampNeg v_9) (fun M_11 => grd (isb r_7) (some (r_7, M_11))))) (fun k74_8 => (if p3 = 0 then grd (inb p1 6) (k74_8 ((M_4 17 p1.toNatClampNeg) &&& ((1 <<< (p2 &&& 31)) ^^^ (-1)))) else grd (inb p1 6) (k74_8 ((M_4 17 p1.toNatClampNeg) ||| (1 <<< (p2 &&& 31))))))) else some (0, M_4))))
def f_X11_goes (fu : Nat) (p1 : Int32) (M : Mem) : Option Mem :=
  nm (up M 0 8 ((M 0 8) + p1)) (fun M_1 => bd (f_X11_drops fu M_1) (fun M_3 => some M_3))
def f_X11_pass (fu : Nat) (p1 : Int32) (M : Mem) : Option (Int32 × Mem) :=
  nm ((if (f_X11_in p1 1 100) = 0 then 1 else 0) : Int32) (fun v_2 => nm (up M 0 0 v_2) (fun M_3 => (if (M_3 0 0) ≤ 0 then bd (f_X11_goes fu p1 M_3) (fun M_6 => some ((M_6 0 8), M_6)) else some (0, M_3))))
def f_X11_now (fu : Nat) (M : Mem) : Option (Int32 × Mem) :=
  nm (up M 0 0 0) (fun M_1 => some ((M_1 0 8), M_1))
def f_X11_isSeat (fu : Nat) (p1 : Int32) (M : Mem) : Option Int32 :=
  some (f_X11_in p1 0 ((M 0 22) - 1))
def f_X11_isSeatColumn (fu : Nat) (p1 : Int32) (p2 : Int32) (M : Mem) : Option Int32 :=
  bd (f_X11_isSeat fu p1 M) (fun r_2 => (if r_2 = 0 then some 0 else grd (inb p1 3) ((if (f_X11_isColumn (M 19 p1.toNatClampNeg) p2) = 0 then some 0 else some 1))))
def f_X11_seat (fu : Nat) (p1 : Int32) (M : Mem) : Option (Int32 × Mem) :=
  nm ((if (f_X11_isSource p1) = 0 then 1 else (if (M 0 22) = 3 then 2 else 0)) : Int32) (fun v_3 => nm (up M 0 0 v_3) (fun M_4 => (if (M_4 0 0) ≤ 0 then grd (inb (M_4 0 22) 3) (nm (up M_4 19 (M_4 0 22).toNatClampNeg p1) (fun M_7 => nm (up M_7 0 22 ((M_7 0 22) + 1)) (fun M_8 => some (((M_8 0 22) - 1), M_8)))) else some (0, M_4))))
def f_X11_link (fu : Nat) (p1 : Int32) (p2 : Int32) (p3 : Int32) (p4 : Int32) (M : Mem) : Option (Int32 × Mem) :=
  bd (f_X11_isSeatColumn fu p1 p2 M) (fun r_2 => jn (fun (v_4 : Int32) => nm (up M 0 0 v_4) (fun M_5 => (if (M_5 0 0) ≤ 0 then grd (inb (M_5 0 24) 3) (nm (up M_5 20 (M_5 0 24).toNatClampNeg p1) (fun M_8 => grd (inb (M_8 0 24) 3) (nm (up M_8 21 (M_8 0 24).toNatClampNeg p2) (fun M_10 => grd (inb (M_10 0 24) 3) (nm (up M_10 22 (M_10 0 24).toNatClampNeg p3) (fun M_12 => grd (inb (M_12 0 24) 3) (nm (up M_12 23 (M_12 0 24).toNatClampNeg p4) (fun M_14 => nm (up M_14 0 24 ((M_14 0 24) + 1)) (fun M_15 => some ((M_15 0 24), M_15)))))))))) else some (0, M_5)))) (fun k46_3 => jn (fun (_ : Unit) => k46_3 1) (fun k20_16 => (if r_2 = 0 then k20_16 () else bd (f_X11_isSeatColumn fu p3 p4 M) (fun r_19 => (if r_19 = 0 then k20_16 () else (if p1 < p3 then (if (M 0 24) = 3 then k46_3 3 else k46_3 0) else k46_3 2)))))))
def f_X11_where (fu : Nat) (p1 : Int32) (p2 : Int32) (p3 : Int32) (p4 : Int32) (M : Mem) : Option (Int32 × Mem) :=
  nm ((if (f_X11_in p3 0 4) = 0 then 0 else (if 3 ≤ p3 then (if p4 = 0 then 1 else 0) else (if (f_X11_isNumber p4) = 0 then 0 else 1))) : Int32) (fun v_5 => bd (f_X11_isSeatColumn fu p1 p2 M) (fun r_7 => nm ((if r_7 = 0 then 1 else (if v_5 = 0 then 2 else (if (M 0 29) = 4 then 3 else 0))) : Int32) (fun v_11 => nm (up M 0 0 v_11) (fun M_12 => (if (M_12 0 0) ≤ 0 then grd (inb (M_12 0 29) 4) (nm (up M_12 24 (M_12 0 29).toNatClampNeg p1) (fun M_15 => grd (inb (M_15 0 29) 4) (nm (up M_15 25 (M_15 0 29).toNatClampNeg p2) (fun M_17 => grd (inb (M_17 0 29) 4) (nm (up M_17 26 (M_17 0 29).toNatClampNeg p3) (fun M_19 => grd (inb (M_19 0 29) 4) (nm (up M_19 27 (M_19 0 29).toNatClampNeg p4) (fun M_21 => nm (up M_21 0 29 ((M_21 0 29) + 1)) (fun M_22 => some ((M_22 0 29), M_22)))))))))) else some (0, M_12))))))
def f_X11_out (fu : Nat) (p1 : Int32) (p2 : Int32) (M : Mem) : Option (Int32 × Mem) :=
  bd (f_X11_isSeatColumn fu p1 p2 M) (fun r_2 => nm ((if r_2 = 0 then 1 else (if (M 0 34) = 3 then 2 else 0)) : Int32) (fun v_5 => nm (up M 0 0 v_5) (fun M_6 => (if (M_6 0 0) ≤ 0 then grd (inb (M_6 0 34) 3) (nm (up M_6 28 (M_6 0 34).toNatClampNeg p1) (fun M_9 => grd (inb (M_9 0 34) 3) (nm (up M_9 29 (M_9 0 34).toNatClampNeg p2) (fun M_11 => nm (up M_11 0 34 ((M_11 0 34) + 1)) (fun M_12 => some ((M_12 0 34), M_12)))))) else some (0, M_6)))))
def f_X11_shape (fu : Nat) (p1 : Int32) (p2 : Int32) (M : Mem) : Option Mem :=
  nm ((if (f_X11_in p1 1 40) = 0 then 1 else 0) : Int32) (fun v_2 => nm (up M 0 0 v_2) (fun M_3 => (if (M_3 0 0) = 0 then nm (up M_3 0 37 p1) (fun M_5 => grd (isb p2) (nm (up M_5 0 38 p2) (fun M_7 => some M_7))) else some M_3)))
def f_X11_clear (fu : Nat) (M : Mem) : Option (Int32 × Mem) :=
  nm (up M 0 0 0) (fun M_1 => nm (M_1 0 22) (fun x1_2 => nm (up M_1 0 22 0) (fun M_3 => nm (up M_3 0 24 0) (fun M_4 => nm (up M_4 0 29 0) (fun M_5 => nm (up M_5 0 34 0) (fun M_6 => nm (up M_6 0 37 40) (fun M_7 => nm (up M_7 0 38 0) (fun M_8 => some (x1_2, M_8)))))))))
def f_X11_isSent (fu : Nat) (p1 : Int32) (p2 : Int32) (M : Mem) : Option Int32 :=
  grd (inb p1 4) ((if (M 24 p1.toNatClampNeg) = p2 then grd (inb p2 3) ((if (f_X11_canDo (f_X11_storeOf (M 19 p2.toNatClampNeg)) (M 25 p1.toNatClampNeg) (M 26 p1.toNatClampNeg)) = 0 then some 0 else some 1)) else some 0))
def f_X11_manySent_L4 (fu : Nat) (p1 : Int32) (M : Mem) : Nat → Int32 → Int32 → Option Int32
  | 0, _, _ => none
  | n_4 + 1, x2_1, x3_2 =>
  (if (M 0 29) ≤ x3_2 then some x2_1 else bd (f_X11_isSent fu x3_2 p1 M) (fun r_5 => nm ((if r_5 = 0 then 0 else 1) : Int32) (fun v_7 => nm (x2_1 + v_7) (fun x2_8 => nm (x3_2 + 1) (fun x3_9 => f_X11_manySent_L4 fu p1 M n_4 x2_8 x3_9)))))
def f_X11_manySent (fu : Nat) (p1 : Int32) (M : Mem) : Option Int32 :=
  f_X11_manySent_L4 fu p1 M fu 0 0
def f_X11_holdSent_L5 (fu : Nat) (p1 : Int32) (p2 : Int32) (M : Mem) : Nat → Int32 → Int32 → Option Int32
  | 0, _, _ => none
  | n_5 + 1, x3_1, x4_2 =>
  (if (M 0 29) ≤ x4_2 then grd (isb x3_1) (some x3_1) else grd (inb p1 3) (grd (inb x4_2 4) (nm ((4 * ((12 * (M 19 p1.toNatClampNeg)) + p2)) + (M 25 x4_2.toNatClampNeg)) (fun x5_7 => jn (fun (_ : Unit) => nm (x4_2 + 1) (fun x4_9 => f_X11_holdSent_L5 fu p1 p2 M n_5 0 x4_9)) (fun k82_8 => (if x3_1 = 0 then k82_8 () else bd (f_X11_isSent fu x4_2 p1 M) (fun r_12 => jn (fun (_ : Unit) => nm (x4_2 + 1) (fun x4_14 => f_X11_holdSent_L5 fu p1 p2 M n_5 1 x4_14)) (fun k78_13 => (if r_12 = 0 then k78_13 () else grd (inb x5_7 288) ((if (f_X11_holds (M 26 x4_2.toNatClampNeg) (M 27 x4_2.toNatClampNeg) (M 3 x5_7.toNatClampNeg)) = 0 then k82_8 () else k78_13 ())))))))))))
def f_X11_holdSent (fu : Nat) (p1 : Int32) (p2 : Int32) (M : Mem) : Option Int32 :=
  f_X11_holdSent_L5 fu p1 p2 M fu 1 0
def f_X11_holdHere_L5 (fu : Nat) (p1 : Int32) (p2 : Int32) (M : Mem) : Nat → Int32 → Int32 → Option Int32
  | 0, _, _ => none
  | n_5 + 1, x3_1, x4_2 =>
  (if (M 0 29) ≤ x4_2 then grd (isb x3_1) (some x3_1) else grd (inb x4_2 4) (nm ((4 * ((12 * p1) + p2)) + (M 25 x4_2.toNatClampNeg)) (fun x5_6 => jn (fun (_ : Unit) => nm (x4_2 + 1) (fun x4_8 => f_X11_holdHere_L5 fu p1 p2 M n_5 0 x4_8)) (fun k78_7 => (if x3_1 = 0 then k78_7 () else jn (fun (_ : Unit) => nm (x4_2 + 1) (fun x4_11 => f_X11_holdHere_L5 fu p1 p2 M n_5 1 x4_11)) (fun k74_10 => (if (M 24 x4_2.toNatClampNeg) = p1 then grd (inb x5_6 144) ((if (f_X11_holds (M 26 x4_2.toNatClampNeg) (M 27 x4_2.toNatClampNeg) (M 45 x5_6.toNatClampNeg)) = 0 then k78_7 () else k74_10 ())) else k74_10 ())))))))
def f_X11_holdHere (fu : Nat) (p1 : Int32) (p2 : Int32) (M : Mem) : Option Int32 :=
  f_X11_holdHere_L5 fu p1 p2 M fu 1 0
def f_X11_pays (fu : Nat) (p1 : Int32) (M : Mem) : Option Mem :=
  nm (up M 0 80 ((M 0 80) + p1)) (fun M_1 => nm (up M_1 0 55 ((M_1 0 55) + p1)) (fun M_2 => some M_2))
def f_X11_tries (fu : Nat) (p1 : Int32) (p2 : Int32) (M : Mem) : Option (Int32 × Mem) :=
  grd (inb p1 3) (jn (fun (M_3 : Mem) => jn (fun (_ : Unit) => nm ((if (M_3 13 p1.toNatClampNeg) = ((M_3 0 8) / 10) then ((M_3 14 p1.toNatClampNeg) + 1) else 1) : Int32) (fun v_6 => nm (up M_3 14 p1.toNatClampNeg v_6) (fun M_7 => nm (up M_7 13 p1.toNatClampNeg ((M_7 0 8) / 10)) (fun M_8 => bd (f_X11_goes fu (M_8 6 p1.toNatClampNeg) M_8) (fun M_10 => jn (fun (M_12 : Mem) => (if (M_12 11 p1.toNatClampNeg) ≤ 0 then some (2, M_12) else nm (up M_12 11 p1.toNatClampNeg ((M_12 11 p1.toNatClampNeg) - 1)) (fun M_14 => some (1, M_14)))) (fun k148_11 => (if p2 = 0 then k148_11 M_10 else nm (up M_10 0 81 ((M_10 0 81) + 1)) (fun M_16 => bd (f_X11_pays fu (M_16 15 p1.toNatClampNeg) M_16) (fun M_18 => k148_11 M_18))))))))) (fun k67_4 => (if p2 = 0 then k67_4 () else (if ((M_3 0 8) - (M_3 0 52)) ≤ (M_3 0 54) then k67_4 () else some (0, M_3))))) (fun k45_2 => (if (M 13 p1.toNatClampNeg) = ((M 0 8) / 10) then (if (M 14 p1.toNatClampNeg) < (M 8 p1.toNatClampNeg) then k45_2 M else bd (f_X11_goes fu (10 - ((M 0 8) - (M 0 8) / 10 * 10)) M) (fun M_24 => k45_2 M_24)) else k45_2 M)))
def f_X11_requests_L4 (fu : Nat) (p1 : Int32) (k27_1 : Int32 → Mem → Option (Int32 × Mem)) : Nat → Int32 → Int32 → Mem → Option (Int32 × Mem)
  | 0, _, _, _ => none
  | n_4 + 1, x2_5, x3_6, M_7 =>
  (if 3 ≤ x3_6 then k27_1 x2_5 M_7 else (if x2_5 = 1 then bm (f_X11_tries fu p1 1 M_7) (fun r_11 M_12 => nm (x3_6 + 1) (fun x3_13 => f_X11_requests_L4 fu p1 k27_1 n_4 r_11 x3_13 M_12)) else k27_1 x2_5 M_7))
def f_X11_requests (fu : Nat) (p1 : Int32) (M : Mem) : Option (Int32 × Mem) :=
  jn (fun (x2_2 : Int32) (M_3 : Mem) => (if x2_2 = 2 then some (1, M_3) else some (0, M_3))) (fun k27_1 => f_X11_requests_L4 fu p1 k27_1 fu 1 0 M)
def f_X11_isKey_L6 (fu : Nat) (p1 : Int32) (p3 : Int32) (M : Mem) : Nat → Int32 → Int32 → Option Int32
  | 0, _, _ => none
  | n_6 + 1, x4_1, x5_2 =>
  (if p3 ≤ x5_2 then grd (isb x4_1) (some x4_1) else jn (fun (_ : Unit) => nm (x5_2 + 1) (fun x5_6 => f_X11_isKey_L6 fu p1 p3 M n_6 1 x5_6)) (fun k28_5 => (if x4_1 = 0 then grd (inb x5_2 12) ((if (M 48 x5_2.toNatClampNeg) = p1 then k28_5 () else nm (x5_2 + 1) (fun x5_10 => f_X11_isKey_L6 fu p1 p3 M n_6 0 x5_10))) else k28_5 ())))
def f_X11_isKey (fu : Nat) (p1 : Int32) (p2 : Int32) (p3 : Int32) (M : Mem) : Option Int32 :=
  f_X11_isKey_L6 fu p1 p3 M fu 0 p2
def f_X11_lays_L141 (fu : Nat) (p1 : Int32) (x3_2 : Int32) (x4_5 : Int32) (k181_10 : Mem → Option Mem) : Nat → Int32 → Mem → Option Mem
  | 0, _, _ => none
  | n_141 + 1, x5_13, M_14 =>
  (if 4 ≤ x5_13 then k181_10 M_14 else grd (inb ((4 * x3_2) + x5_13) 288) (grd (inb ((4 * ((12 * p1) + x4_5)) + x5_13) 144) (nm (up M_14 45 ((4 * ((12 * p1) + x4_5)) + x5_13).toNatClampNeg (M_14 3 ((4 * x3_2) + x5_13).toNatClampNeg)) (fun M_18 => nm (x5_13 + 1) (fun x5_19 => f_X11_lays_L141 fu p1 x3_2 x4_5 k181_10 n_141 x5_19 M_18)))))
def f_X11_lays_L76 (fu : Nat) (x5_26 : Int32) (k114_30 : Mem → Option Mem) : Nat → Int32 → Mem → Option Mem
  | 0, _, _ => none
  | n_76 + 1, x6_33, M_34 =>
  (if 4 ≤ x6_33 then k114_30 M_34 else grd (inb ((4 * (x5_26 - 1)) + x6_33) 144) (grd (inb ((4 * x5_26) + x6_33) 144) (nm (up M_34 45 ((4 * x5_26) + x6_33).toNatClampNeg (M_34 45 ((4 * (x5_26 - 1)) + x6_33).toNatClampNeg)) (fun M_38 => nm (x6_33 + 1) (fun x6_39 => f_X11_lays_L76 fu x5_26 k114_30 n_76 x6_39 M_38)))))
def f_X11_lays_L20 (fu : Nat) (p1 : Int32) (x3_2 : Int32) (k120_4 : Int32 → Mem → Option Mem) : Nat → Int32 → Mem → Option Mem
  | 0, _, _ => none
  | n_20 + 1, x4_20, M_21 =>
  (if x4_20 ≤ 0 then k120_4 x4_20 M_21 else grd (inb (((12 * p1) + x4_20) - 1) 36) (grd (inb x3_2 72) ((if (M_21 44 (((12 * p1) + x4_20) - 1).toNatClampNeg) ≤ (M_21 2 x3_2.toNatClampNeg) then k120_4 x4_20 M_21 else nm ((12 * p1) + x4_20) (fun x5_26 => grd (inb (x5_26 - 1) 36) (grd (inb x5_26 36) (nm (up M_21 44 x5_26.toNatClampNeg (M_21 44 (x5_26 - 1).toNatClampNeg)) (fun M_29 => jn (fun (M_31 : Mem) => nm (x4_20 + (-1)) (fun x4_32 => f_X11_lays_L20 fu p1 x3_2 k120_4 n_20 x4_32 M_31)) (fun k114_30 => f_X11_lays_L76 fu x5_26 k114_30 fu 0 M_29)))))))))
def f_X11_lays (fu : Nat) (p1 : Int32) (p2 : Int32) (M : Mem) : Option Mem :=
  grd (inb p1 3) (nm ((12 * (M 19 p1.toNatClampNeg)) + p2) (fun x3_2 => nm (M 43 p1.toNatClampNeg) (fun x4_3 => jn (fun (x4_5 : Int32) (M_6 : Mem) => grd (inb x3_2 72) (grd (inb ((12 * p1) + x4_5) 36) (nm (up M_6 44 ((12 * p1) + x4_5).toNatClampNeg (M_6 2 x3_2.toNatClampNeg)) (fun M_9 => jn (fun (M_11 : Mem) => nm (up M_11 43 p1.toNatClampNeg ((M_11 43 p1.toNatClampNeg) + 1)) (fun M_12 => some M_12)) (fun k181_10 => f_X11_lays_L141 fu p1 x3_2 x4_5 k181_10 fu 0 M_9))))) (fun k120_4 => f_X11_lays_L20 fu p1 x3_2 k120_4 fu x4_3 M))))
def f_X11_comes_L19 (fu : Nat) (p1 : Int32) (p2 : Int32) (p3 : Int32) (p4 : Int32) (x5_2 : Int32) (k112_4 : Int32 → Mem → Option Mem) : Nat → Int32 → Int32 → Mem → Option Mem
  | 0, _, _, _ => none
  | n_19 + 1, x6_11, x7_12, M_13 =>
  grd (inb x5_2 6) ((if (M_13 1 x5_2.toNatClampNeg) ≤ x7_12 then k112_4 x6_11 M_13 else bd (f_X11_holdSent fu p1 x7_12 M_13) (fun r_17 => (if r_17 = 0 then nm (x7_12 + 1) (fun x7_19 => f_X11_comes_L19 fu p1 p2 p3 p4 x5_2 k112_4 n_19 x6_11 x7_19 M_13) else jn (fun (_ : Unit) => grd (inb (f_X11_storeOf x5_2) 3) ((if x6_11 = (M_13 9 (f_X11_storeOf x5_2).toNatClampNeg) then nm (up M_13 0 62 1) (fun M_27 => nm (x7_12 + 1) (fun x7_28 => f_X11_comes_L19 fu p1 p2 p3 p4 x5_2 k112_4 n_19 x6_11 x7_28 M_27)) else bd (f_X11_lays fu p1 x7_12 M_13) (fun M_24 => nm (x6_11 + 1) (fun x6_25 => nm (x7_12 + 1) (fun x7_26 => f_X11_comes_L19 fu p1 p2 p3 p4 x5_2 k112_4 n_19 x6_25 x7_26 M_24)))))) (fun k73_20 => (if p2 = (-1) then k73_20 () else grd (inb ((4 * ((12 * x5_2) + x7_12)) + p2) 288) (bd (f_X11_isKey fu (M_13 3 ((4 * ((12 * x5_2) + x7_12)) + p2).toNatClampNeg) p3 p4 M_13) (fun r_32 => (if r_32 = 0 then nm (x7_12 + 1) (fun x7_34 => f_X11_comes_L19 fu p1 p2 p3 p4 x5_2 k112_4 n_19 x6_11 x7_34 M_13) else k73_20 ())))))))))
def f_X11_comes (fu : Nat) (p1 : Int32) (p2 : Int32) (p3 : Int32) (p4 : Int32) (M : Mem) : Option Mem :=
  grd (inb p1 3) (nm (M 19 p1.toNatClampNeg) (fun x5_2 => nm (up M 0 62 0) (fun M_3 => jn (fun (x6_5 : Int32) (M_6 : Mem) => nm (up M_6 0 82 ((M_6 0 82) + x6_5)) (fun M_7 => grd (inb (f_X11_storeOf x5_2) 3) (bd (f_X11_pays fu (x6_5 * (M_7 16 (f_X11_storeOf x5_2).toNatClampNeg)) M_7) (fun M_10 => some M_10)))) (fun k112_4 => f_X11_comes_L19 fu p1 p2 p3 p4 x5_2 k112_4 fu 0 0 M_3))))
def f_X11_remembers_L212 (fu : Nat) (p1 : Int32) (x2_3 : Int32) : Nat → Int32 → Mem → Option Mem
  | 0, _, _ => none
  | n_212 + 1, x3_19, M_20 =>
  (if (M_20 0 29) ≤ x3_19 then some M_20 else bd (f_X11_isSent fu x3_19 p1 M_20) (fun r_23 => (if r_23 = 0 then nm (x3_19 + 1) (fun x3_25 => f_X11_remembers_L212 fu p1 x2_3 n_212 x3_25 M_20) else grd (inb x2_3 6) (nm ((4 * x2_3) + (M_20 38 x2_3.toNatClampNeg)) (fun x4_27 => grd (inb x3_19 4) (grd (inb x4_27 24) (nm (up M_20 39 x4_27.toNatClampNeg (M_20 25 x3_19.toNatClampNeg)) (fun M_30 => nm (up M_30 40 x4_27.toNatClampNeg (M_30 26 x3_19.toNatClampNeg)) (fun M_31 => nm (up M_31 41 x4_27.toNatClampNeg (M_31 27 x3_19.toNatClampNeg)) (fun M_32 => nm (up M_32 38 x2_3.toNatClampNeg ((M_32 38 x2_3.toNatClampNeg) + 1)) (fun M_33 => nm (x3_19 + 1) (fun x3_34 => f_X11_remembers_L212 fu p1 x2_3 n_212 x3_34 M_33))))))))))))
def f_X11_remembers_L163 (fu : Nat) (p1 : Int32) (x2_3 : Int32) (k203_16 : Mem → Option Mem) : Nat → Int32 → Mem → Option Mem
  | 0, _, _ => none
  | n_163 + 1, x3_35, M_36 =>
  grd (inb p1 3) ((if ((M_36 43 p1.toNatClampNeg) * 4) ≤ x3_35 then k203_16 M_36 else grd (inb ((48 * p1) + x3_35) 144) (grd (inb ((48 * x2_3) + x3_35) 288) (nm (up M_36 37 ((48 * x2_3) + x3_35).toNatClampNeg (M_36 45 ((48 * p1) + x3_35).toNatClampNeg)) (fun M_41 => nm (x3_35 + 1) (fun x3_42 => f_X11_remembers_L163 fu p1 x2_3 k203_16 n_163 x3_42 M_41))))))
def f_X11_remembers_L123 (fu : Nat) (p1 : Int32) (x2_3 : Int32) (k161_14 : Mem → Option Mem) : Nat → Int32 → Mem → Option Mem
  | 0, _, _ => none
  | n_123 + 1, x3_43, M_44 =>
  grd (inb p1 3) ((if (M_44 43 p1.toNatClampNeg) ≤ x3_43 then k161_14 M_44 else grd (inb ((12 * p1) + x3_43) 36) (grd (inb ((12 * x2_3) + x3_43) 72) (nm (up M_44 36 ((12 * x2_3) + x3_43).toNatClampNeg (M_44 44 ((12 * p1) + x3_43).toNatClampNeg)) (fun M_49 => nm (x3_43 + 1) (fun x3_50 => f_X11_remembers_L123 fu p1 x2_3 k161_14 n_123 x3_50 M_49))))))
def f_X11_remembers_L11 (fu : Nat) (k31_52 : Mem → Option Mem) : Nat → Int32 → Mem → Option Mem
  | 0, _, _ => none
  | n_11 + 1, x2_55, M_56 =>
  (if 6 ≤ x2_55 then k31_52 M_56 else bd (f_X11_moves fu x2_55 (x2_55 - 1) M_56) (fun M_59 => nm (x2_55 + 1) (fun x2_60 => f_X11_remembers_L11 fu k31_52 n_11 x2_60 M_59)))
def f_X11_remembers (fu : Nat) (p1 : Int32) (M : Mem) : Option Mem :=
  jn (fun (M_2 : Mem) => nm (M_2 0 39) (fun x2_3 => nm (up M_2 0 39 ((M_2 0 39) + 1)) (fun M_4 => grd (inb p1 3) (grd (inb x2_3 6) (nm (up M_4 30 x2_3.toNatClampNeg (M_4 19 p1.toNatClampNeg)) (fun M_7 => nm (up M_7 31 x2_3.toNatClampNeg (M_7 0 8)) (fun M_8 => grd (inb (M_8 19 p1.toNatClampNeg) 6) (nm (up M_8 32 x2_3.toNatClampNeg (M_8 5 (M_8 19 p1.toNatClampNeg).toNatClampNeg)) (fun M_10 => nm (up M_10 33 x2_3.toNatClampNeg (-1)) (fun M_11 => nm (up M_11 34 x2_3.toNatClampNeg (-1)) (fun M_12 => nm (up M_12 35 x2_3.toNatClampNeg (M_12 43 p1.toNatClampNeg)) (fun M_13 => jn (fun (M_15 : Mem) => jn (fun (M_17 : Mem) => nm (up M_17 38 x2_3.toNatClampNeg 0) (fun M_18 => f_X11_remembers_L212 fu p1 x2_3 fu 0 M_18)) (fun k203_16 => f_X11_remembers_L163 fu p1 x2_3 k203_16 fu 0 M_15)) (fun k161_14 => f_X11_remembers_L123 fu p1 x2_3 k161_14 fu 0 M_13))))))))))))) (fun k41_1 => (if (M 0 39) = 6 then jn (fun (M_53 : Mem) => nm (up M_53 0 39 ((M_53 0 39) - 1)) (fun M_54 => k41_1 M_54)) (fun k31_52 => f_X11_remembers_L11 fu k31_52 fu 1 M) else k41_1 M))
def f_X11_scans (fu : Nat) (p1 : Int32) (M : Mem) : Option (Int32 × Mem) :=
  grd (inb p1 3) (nm (up M 43 p1.toNatClampNeg 0) (fun M_2 => bm (f_X11_requests fu (f_X11_storeOf (M_2 19 p1.toNatClampNeg)) M_2) (fun r_4 M_5 => (if r_4 = 0 then some (1, M_5) else bd (f_X11_comes fu p1 (-1) 0 0 M_5) (fun M_8 => (if (M_8 0 62) = 0 then bd (f_X11_remembers fu p1 M_8) (fun M_12 => bd (f_X11_manySent fu p1 M_12) (fun r_14 => jn (fun (v_16 : Int32) => grd (inb (M_12 19 p1.toNatClampNeg) 6) (nm (up M_12 18 (M_12 19 p1.toNatClampNeg).toNatClampNeg v_16) (fun M_18 => grd (isb (M_18 0 62)) (some ((M_18 0 62), M_18))))) (fun k83_15 => (if r_14 = 0 then k83_15 (M_12 43 p1.toNatClampNeg) else grd (inb (M_12 19 p1.toNatClampNeg) 6) (k83_15 (M_12 18 (M_12 19 p1.toNatClampNeg).toNatClampNeg)))))) else grd (isb (M_8 0 62)) (some ((M_8 0 62), M_8))))))))
def f_X11_canServe_L65 (fu : Nat) (p2 : Int32) (M : Mem) (x4_8 : Int32) (k165_12 : Int32 → Option Int32) : Nat → Int32 → Int32 → Option Int32
  | 0, _, _ => none
  | n_65 + 1, x5_19, x6_20 =>
  (if (M 0 29) ≤ x6_20 then k165_12 x5_19 else bd (f_X11_isSent fu x6_20 p2 M) (fun r_23 => jn (fun (v_25 : Int32) => jn (fun (_ : Unit) => nm (x6_20 + 1) (fun x6_27 => f_X11_canServe_L65 fu p2 M x4_8 k165_12 n_65 1 x6_27)) (fun k152_26 => (if x5_19 = 0 then jn (fun (_ : Unit) => nm (x6_20 + 1) (fun x6_30 => f_X11_canServe_L65 fu p2 M x4_8 k165_12 n_65 0 x6_30)) (fun k156_29 => (if v_25 = 0 then k156_29 () else grd (inb x4_8 24) (grd (inb x6_20 4) ((if (f_X11_follows (M 40 x4_8.toNatClampNeg) (M 41 x4_8.toNatClampNeg) (M 26 x6_20.toNatClampNeg) (M 27 x6_20.toNatClampNeg)) = 0 then k156_29 () else k152_26 ()))))) else k152_26 ()))) (fun k106_24 => jn (fun (_ : Unit) => k106_24 0) (fun k105_35 => (if r_23 = 0 then k105_35 () else grd (inb x6_20 4) (grd (inb x4_8 24) ((if (M 25 x6_20.toNatClampNeg) = (M 39 x4_8.toNatClampNeg) then k106_24 1 else k105_35 ()))))))))
def f_X11_canServe_L44 (fu : Nat) (p1 : Int32) (p2 : Int32) (M : Mem) : Nat → Int32 → Int32 → Option Int32
  | 0, _, _ => none
  | n_44 + 1, x3_7, x4_8 =>
  grd (inb p1 6) ((if ((4 * p1) + (M 38 p1.toNatClampNeg)) ≤ x4_8 then grd (isb x3_7) (some x3_7) else jn (fun (x5_13 : Int32) => jn (fun (_ : Unit) => nm (x4_8 + 1) (fun x4_15 => f_X11_canServe_L44 fu p1 p2 M n_44 0 x4_15)) (fun k178_14 => (if x3_7 = 0 then k178_14 () else (if x5_13 = 0 then k178_14 () else nm (x4_8 + 1) (fun x4_18 => f_X11_canServe_L44 fu p1 p2 M n_44 1 x4_18))))) (fun k165_12 => f_X11_canServe_L65 fu p2 M x4_8 k165_12 fu 0 0)))
def f_X11_canServe (fu : Nat) (p1 : Int32) (p2 : Int32) (M : Mem) : Option Int32 :=
  grd (inb p1 6) (grd (inb p2 3) (nm ((if (M 30 p1.toNatClampNeg) = (M 19 p2.toNatClampNeg) then (if (M 0 53) < ((M 0 8) - (M 31 p1.toNatClampNeg)) then 0 else 1) else 0) : Int32) (fun v_5 => nm (4 * p1) (fun x4_6 => f_X11_canServe_L44 fu p1 p2 M fu v_5 x4_6))))
def f_X11_entryFor_L4 (fu : Nat) (p1 : Int32) (M : Mem) : Nat → Int32 → Int32 → Option Int32
  | 0, _, _ => none
  | n_4 + 1, x2_1, x3_2 =>
  (if (M 0 39) ≤ x3_2 then some x2_1 else bd (f_X11_canServe fu x3_2 p1 M) (fun r_5 => (if r_5 = 0 then nm (x3_2 + 1) (fun x3_7 => f_X11_entryFor_L4 fu p1 M n_4 x2_1 x3_7) else nm (x3_2 + 1) (fun x3_8 => f_X11_entryFor_L4 fu p1 M n_4 x3_2 x3_8))))
def f_X11_entryFor (fu : Nat) (p1 : Int32) (M : Mem) : Option Int32 :=
  f_X11_entryFor_L4 fu p1 M fu (-1) 0
def f_X11_serves_L50 (fu : Nat) (p1 : Int32) (p2 : Int32) (k84_6 : Mem → Option Mem) : Nat → Int32 → Mem → Option Mem
  | 0, _, _ => none
  | n_50 + 1, x3_12, M_13 =>
  (if 48 ≤ x3_12 then k84_6 M_13 else grd (inb ((48 * p1) + x3_12) 288) (grd (inb ((48 * p2) + x3_12) 144) (nm (up M_13 45 ((48 * p2) + x3_12).toNatClampNeg (M_13 37 ((48 * p1) + x3_12).toNatClampNeg)) (fun M_17 => nm (x3_12 + 1) (fun x3_18 => f_X11_serves_L50 fu p1 p2 k84_6 n_50 x3_18 M_17)))))
def f_X11_serves_L14 (fu : Nat) (p1 : Int32) (p2 : Int32) (k48_4 : Mem → Option Mem) : Nat → Int32 → Mem → Option Mem
  | 0, _, _ => none
  | n_14 + 1, x3_19, M_20 =>
  (if 12 ≤ x3_19 then k48_4 M_20 else grd (inb ((12 * p1) + x3_19) 72) (grd (inb ((12 * p2) + x3_19) 36) (nm (up M_20 44 ((12 * p2) + x3_19).toNatClampNeg (M_20 36 ((12 * p1) + x3_19).toNatClampNeg)) (fun M_24 => nm (x3_19 + 1) (fun x3_25 => f_X11_serves_L14 fu p1 p2 k48_4 n_14 x3_25 M_24)))))
def f_X11_serves (fu : Nat) (p1 : Int32) (p2 : Int32) (M : Mem) : Option Mem :=
  grd (inb p1 6) (grd (inb p2 3) (nm (up M 43 p2.toNatClampNeg (M 35 p1.toNatClampNeg)) (fun M_3 => jn (fun (M_5 : Mem) => jn (fun (M_7 : Mem) => nm (up M_7 46 p2.toNatClampNeg (M_7 32 p1.toNatClampNeg)) (fun M_8 => nm ((if (M_8 33 p1.toNatClampNeg) = (-1) then (M_8 0 7) else (M_8 33 p1.toNatClampNeg)) : Int32) (fun v_10 => nm (up M_8 47 p2.toNatClampNeg v_10) (fun M_11 => some M_11)))) (fun k84_6 => f_X11_serves_L50 fu p1 p2 k84_6 fu 0 M_5)) (fun k48_4 => f_X11_serves_L14 fu p1 p2 k48_4 fu 0 M_3))))
def f_X11_guess_L18 (fu : Nat) (k32_6 : Int32 → Option Int32) : Nat → Int32 → Int32 → Option Int32
  | 0, _, _ => none
  | n_18 + 1, x2_9, x3_10 =>
  (if x3_10 ≤ 0 then k32_6 x2_9 else nm (x2_9 / 2) (fun x2_12 => nm (x3_10 + (-1)) (fun x3_13 => f_X11_guess_L18 fu k32_6 n_18 x2_12 x3_13)))
def f_X11_guess (fu : Nat) (p1 : Int32) (M : Mem) : Option Int32 :=
  grd (inb p1 3) (grd (inb (M 19 p1.toNatClampNeg) 6) (nm (M 18 (M 19 p1.toNatClampNeg).toNatClampNeg) (fun x2_3 => bd (f_X11_manySent fu p1 M) (fun r_5 => jn (fun (x2_7 : Int32) => (if 1 ≤ x2_7 then some x2_7 else some 1)) (fun k32_6 => f_X11_guess_L18 fu k32_6 fu x2_3 r_5)))))
def f_X11_linkOf_L9 (fu : Nat) (p1 : Int32) (M : Mem) : Nat → Int32 → Int32 → Option Int32
  | 0, _, _ => none
  | n_9 + 1, x2_2, x3_3 =>
  (if x3_3 < 0 then some x2_2 else grd (inb x3_3 3) (jn (fun (v_7 : Int32) => (if v_7 = 0 then nm (x3_3 + (-1)) (fun x3_9 => f_X11_linkOf_L9 fu p1 M n_9 x2_2 x3_9) else nm (x3_3 + (-1)) (fun x3_10 => f_X11_linkOf_L9 fu p1 M n_9 x3_3 x3_10))) (fun k66_6 => jn (fun (_ : Unit) => k66_6 1) (fun k61_11 => jn (fun (_ : Unit) => jn (fun (_ : Unit) => k66_6 0) (fun k65_13 => (if (M 22 x3_3.toNatClampNeg) = p1 then grd (inb (M 20 x3_3.toNatClampNeg) 3) ((if (M 42 (M 20 x3_3.toNatClampNeg).toNatClampNeg) = 0 then k65_13 () else k61_11 ())) else k65_13 ()))) (fun k37_12 => (if (M 20 x3_3.toNatClampNeg) = p1 then grd (inb (M 22 x3_3.toNatClampNeg) 3) ((if (M 42 (M 22 x3_3.toNatClampNeg).toNatClampNeg) = 0 then k37_12 () else k61_11 ())) else k37_12 ()))))))
def f_X11_linkOf (fu : Nat) (p1 : Int32) (M : Mem) : Option Int32 :=
  nm ((M 0 24) - 1) (fun x3_1 => f_X11_linkOf_L9 fu p1 M fu (-1) x3_1)
def f_X11_nextSeat_L6 (fu : Nat) (M : Mem) : Nat → Int32 → Int32 → Int32 → Option Int32
  | 0, _, _, _ => none
  | n_6 + 1, x1_1, x2_2, x3_3 =>
  (if (M 0 22) ≤ x3_3 then some x1_1 else grd (inb x3_3 3) ((if (M 42 x3_3.toNatClampNeg) = 0 then bd (f_X11_linkOf fu x3_3 M) (fun r_9 => nm ((if r_9 = (-1) then 0 else 1) : Int32) (fun v_11 => jn (fun (v_13 : Int32) => nm ((if v_13 = 0 then x1_1 else x3_3) : Int32) (fun v_15 => nm ((if x2_2 = 0 then (if v_11 = 0 then 0 else 1) else 1) : Int32) (fun v_18 => nm (x3_3 + 1) (fun x3_19 => f_X11_nextSeat_L6 fu M n_6 v_15 v_18 x3_19)))) (fun k77_12 => jn (fun (_ : Unit) => k77_12 1) (fun k72_20 => (if x1_1 = (-1) then k72_20 () else jn (fun (_ : Unit) => jn (fun (_ : Unit) => k77_12 0) (fun k76_23 => (if v_11 = x2_2 then bd (f_X11_guess fu x3_3 M) (fun r_26 => bd (f_X11_guess fu x1_1 M) (fun r_28 => (if r_28 ≤ r_26 then k76_23 () else k72_20 ()))) else k76_23 ()))) (fun k53_22 => (if v_11 = 0 then k53_22 () else (if x2_2 = 0 then k72_20 () else k53_22 ())))))))) else nm (x3_3 + 1) (fun x3_7 => f_X11_nextSeat_L6 fu M n_6 x1_1 x2_2 x3_7))))
def f_X11_nextSeat (fu : Nat) (M : Mem) : Option Int32 :=
  f_X11_nextSeat_L6 fu M fu (-1) 0 0
def f_X11_laysKeys_L71 (fu : Nat) (x4_7 : Int32) (k112_19 : Int32 → Mem → Option Mem) : Nat → Int32 → Mem → Option Mem
  | 0, _, _ => none
  | n_71 + 1, x5_26, M_27 =>
  (if x5_26 ≤ 0 then k112_19 x5_26 M_27 else grd (inb (x5_26 - 1) 12) ((if (M_27 48 (x5_26 - 1).toNatClampNeg) ≤ x4_7 then k112_19 x5_26 M_27 else grd (inb x5_26 12) (nm (up M_27 48 x5_26.toNatClampNeg (M_27 48 (x5_26 - 1).toNatClampNeg)) (fun M_32 => nm (x5_26 + (-1)) (fun x5_33 => f_X11_laysKeys_L71 fu x4_7 k112_19 n_71 x5_33 M_32))))))
def f_X11_laysKeys_L7 (fu : Nat) (p1 : Int32) (p2 : Int32) : Nat → Int32 → Mem → Option Mem
  | 0, _, _ => none
  | n_7 + 1, x3_2, M_3 =>
  grd (inb p1 3) ((if (M_3 43 p1.toNatClampNeg) ≤ x3_2 then some M_3 else grd (inb ((4 * ((12 * p1) + x3_2)) + p2) 144) (nm (M_3 45 ((4 * ((12 * p1) + x3_2)) + p2).toNatClampNeg) (fun x4_7 => (if (f_X11_isNumber x4_7) = 0 then nm (x3_2 + 1) (fun x3_9 => f_X11_laysKeys_L7 fu p1 p2 n_7 x3_9 M_3) else bd (f_X11_holdHere fu p1 x3_2 M_3) (fun r_11 => (if r_11 = 0 then nm (x3_2 + 1) (fun x3_13 => f_X11_laysKeys_L7 fu p1 p2 n_7 x3_13 M_3) else bd (f_X11_isKey fu x4_7 0 (M_3 0 63) M_3) (fun r_15 => (if r_15 = 0 then nm (M_3 0 63) (fun x5_18 => jn (fun (x5_20 : Int32) (M_21 : Mem) => grd (inb x5_20 12) (nm (up M_21 48 x5_20.toNatClampNeg x4_7) (fun M_23 => nm (up M_23 0 63 ((M_23 0 63) + 1)) (fun M_24 => nm (x3_2 + 1) (fun x3_25 => f_X11_laysKeys_L7 fu p1 p2 n_7 x3_25 M_24))))) (fun k112_19 => f_X11_laysKeys_L71 fu x4_7 k112_19 fu x5_18 M_3)) else nm (x3_2 + 1) (fun x3_17 => f_X11_laysKeys_L7 fu p1 p2 n_7 x3_17 M_3))))))))))
def f_X11_laysKeys (fu : Nat) (p1 : Int32) (p2 : Int32) (M : Mem) : Option Mem :=
  nm (up M 0 63 0) (fun M_1 => f_X11_laysKeys_L7 fu p1 p2 fu 0 M_1)
def f_X11_canBind (fu : Nat) (p1 : Int32) (p2 : Int32) (M : Mem) : Option (Int32 × Mem) :=
  grd (inb p2 3) (nm ((if (M 20 p2.toNatClampNeg) = p1 then 1 else 0) : Int32) (fun v_3 => nm ((if v_3 = 0 then (M 23 p2.toNatClampNeg) else (M 21 p2.toNatClampNeg)) : Int32) (fun v_5 => nm ((if v_3 = 0 then (M 20 p2.toNatClampNeg) else (M 22 p2.toNatClampNeg)) : Int32) (fun v_7 => grd (inb p1 3) (nm (f_X11_storeOf (M 19 p1.toNatClampNeg)) (fun x6_9 => (if (f_X11_canDo x6_9 v_5 0) = 0 then some (0, M) else grd (inb v_7 3) (bd (f_X11_isForbidden fu (M 19 v_7.toNatClampNeg) x6_9 M) (fun r_13 => (if r_13 = 0 then nm ((if v_3 = 0 then (M 21 p2.toNatClampNeg) else (M 23 p2.toNatClampNeg)) : Int32) (fun v_16 => bd (f_X11_laysKeys fu v_7 v_16 M) (fun M_18 => grd (inb x6_9 3) (bd (f_X11_guess fu p1 M_18) (fun r_21 => (if ((M_18 15 x6_9.toNatClampNeg) + (r_21 * (M_18 16 x6_9.toNatClampNeg))) ≤ (((((M_18 0 63) + 3) / 4) * (M_18 15 x6_9.toNatClampNeg)) + ((M_18 0 63) * (M_18 16 x6_9.toNatClampNeg))) then some (0, M_18) else some (1, M_18)))))) else some (0, M)))))))))))
def f_X11_binds_L44 (fu : Nat) (p1 : Int32) (p2 : Int32) (x3_2 : Int32) (x4_6 : Int32) (k158_8 : Int32 → Mem → Option (Int32 × Mem)) : Nat → Int32 → Int32 → Mem → Option (Int32 × Mem)
  | 0, _, _, _ => none
  | n_44 + 1, x5_12, x6_13, M_14 =>
  (if (M_14 0 63) ≤ x6_13 then k158_8 x5_12 M_14 else bm (f_X11_requests fu x3_2 M_14) (fun r_17 M_18 => (if r_17 = 0 then some (11, M_18) else nm ((if (M_18 0 63) ≤ (x6_13 + 4) then (M_18 0 63) else (x6_13 + 4)) : Int32) (fun v_21 => bd (f_X11_comes fu p1 p2 x6_13 v_21 M_18) (fun M_23 => nm ((if x5_12 = 0 then (if (M_23 0 62) = 0 then 0 else 1) else 1) : Int32) (fun v_26 => (if (M_23 0 63) ≤ v_21 then nm (x6_13 + 4) (fun x6_28 => f_X11_binds_L44 fu p1 p2 x3_2 x4_6 k158_8 n_44 v_26 x6_28 M_23) else (if (M_23 0 55) < x4_6 then nm (x6_13 + 4) (fun x6_30 => f_X11_binds_L44 fu p1 p2 x3_2 x4_6 k158_8 n_44 v_26 x6_30 M_23) else bm (f_X11_scans fu p1 M_23) (fun r_32 M_33 => (if r_32 = 0 then some ((2 + 0), M_33) else some ((2 + 10), M_33)))))))))))
def f_X11_binds (fu : Nat) (p1 : Int32) (p2 : Int32) (M : Mem) : Option (Int32 × Mem) :=
  grd (inb p1 3) (nm (f_X11_storeOf (M 19 p1.toNatClampNeg)) (fun x3_2 => grd (inb x3_2 3) (bd (f_X11_guess fu p1 M) (fun r_5 => nm ((M 15 x3_2.toNatClampNeg) + (r_5 * (M 16 x3_2.toNatClampNeg))) (fun x4_6 => nm (up M 43 p1.toNatClampNeg 0) (fun M_7 => jn (fun (x5_9 : Int32) (M_10 : Mem) => (if x5_9 = 0 then some ((1 + 0), M_10) else some ((1 + 10), M_10))) (fun k158_8 => f_X11_binds_L44 fu p1 p2 x3_2 x4_6 k158_8 fu 0 0 M_7)))))))
def f_X11_takes (fu : Nat) (p1 : Int32) (M : Mem) : Option Mem :=
  nm (up M 0 55 0) (fun M_1 => bd (f_X11_entryFor fu p1 M_1) (fun r_3 => bd (f_X11_linkOf fu p1 M_1) (fun r_5 => jn (fun (x4_7 : Int32) (M_8 : Mem) => grd (inb p1 3) (nm (up M_8 42 p1.toNatClampNeg 1) (fun M_10 => nm ((if x4_7 < 10 then 0 else (1 <<< (p1 &&& 31))) : Int32) (fun v_12 => nm (up M_10 0 78 ((M_10 0 78) ||| v_12)) (fun M_13 => grd (inb (M_13 0 83) 3) (nm (up M_13 57 (M_13 0 83).toNatClampNeg ((10 * p1) + (x4_7 - x4_7 / 10 * 10))) (fun M_15 => nm (up M_15 0 83 ((M_15 0 83) + 1)) (fun M_16 => some M_16)))))))) (fun k128_6 => (if r_3 = (-1) then jn (fun (x4_19 : Int32) (M_20 : Mem) => grd (inb p1 3) (grd (inb (M_20 19 p1.toNatClampNeg) 6) (nm (up M_20 46 p1.toNatClampNeg (M_20 5 (M_20 19 p1.toNatClampNeg).toNatClampNeg)) (fun M_23 => nm (up M_23 47 p1.toNatClampNeg (M_23 0 7)) (fun M_24 => k128_6 x4_19 M_24))))) (fun k101_18 => jn (fun (M_26 : Mem) => bm (f_X11_scans fu p1 M_26) (fun r_28 M_29 => nm ((if r_28 = 0 then 0 else 10) : Int32) (fun v_31 => nm (3 + v_31) (fun x4_32 => k101_18 x4_32 M_29)))) (fun k83_25 => (if r_5 = (-1) then k83_25 M_1 else bm (f_X11_canBind fu p1 r_5 M_1) (fun r_35 M_36 => (if r_35 = 0 then k83_25 M_36 else grd (inb r_5 3) (nm ((if (M_36 20 r_5.toNatClampNeg) = p1 then (M_36 21 r_5.toNatClampNeg) else (M_36 23 r_5.toNatClampNeg)) : Int32) (fun v_40 => bm (f_X11_binds fu p1 v_40 M_36) (fun r_42 M_43 => k101_18 r_42 M_43)))))))) else bd (f_X11_serves fu r_3 p1 M_1) (fun M_45 => k128_6 0 M_45))))))
def f_X11_laysRow_L90 (fu : Nat) (p1 : Int32) (x4_2 : Int32) (M_4 : Mem) (k163_5 : Int32 → Option Mem) : Nat → Int32 → Int32 → Option Mem
  | 0, _, _ => none
  | n_90 + 1, x5_10, x6_11 =>
  (if (M_4 0 29) ≤ x6_11 then k163_5 x5_10 else jn (fun (_ : Unit) => nm (x6_11 + 1) (fun x6_14 => f_X11_laysRow_L90 fu p1 x4_2 M_4 k163_5 n_90 0 x6_14)) (fun k154_13 => (if x5_10 = 0 then k154_13 () else grd (inb x6_11 4) (jn (fun (_ : Unit) => nm (x6_11 + 1) (fun x6_18 => f_X11_laysRow_L90 fu p1 x4_2 M_4 k163_5 n_90 1 x6_18)) (fun k150_17 => (if (M_4 24 x6_11.toNatClampNeg) = p1 then grd (inb (x4_2 + (M_4 25 x6_11.toNatClampNeg)) 144) ((if (f_X11_holds (M_4 26 x6_11.toNatClampNeg) (M_4 27 x6_11.toNatClampNeg) (M_4 50 (x4_2 + (M_4 25 x6_11.toNatClampNeg)).toNatClampNeg)) = 0 then k154_13 () else k150_17 ())) else k150_17 ()))))))
def f_X11_laysRow_L18 (fu : Nat) (p1 : Int32) (p2 : Int32) (p3 : Int32) (x4_2 : Int32) (k84_3 : Mem → Option Mem) : Nat → Int32 → Mem → Option Mem
  | 0, _, _ => none
  | n_18 + 1, x5_22, M_23 =>
  (if 4 ≤ x5_22 then k84_3 M_23 else jn (fun (v_26 : Int32) => grd (inb (x4_2 + x5_22) 144) (nm (up M_23 50 (x4_2 + x5_22).toNatClampNeg v_26) (fun M_28 => nm (x5_22 + 1) (fun x5_29 => f_X11_laysRow_L18 fu p1 p2 p3 x4_2 k84_3 n_18 x5_29 M_28)))) (fun k77_25 => (if p2 = 0 then grd (inb p1 3) (grd (inb ((4 * ((12 * (M_23 19 p1.toNatClampNeg)) + p3)) + x5_22) 288) (k77_25 (M_23 3 ((4 * ((12 * (M_23 19 p1.toNatClampNeg)) + p3)) + x5_22).toNatClampNeg))) else grd (inb ((4 * ((12 * p1) + p3)) + x5_22) 144) (k77_25 (M_23 45 ((4 * ((12 * p1) + p3)) + x5_22).toNatClampNeg)))))
def f_X11_laysRow (fu : Nat) (p1 : Int32) (p2 : Int32) (p3 : Int32) (M : Mem) : Option Mem :=
  grd (inb p1 3) (nm (4 * ((12 * p1) + (M 49 p1.toNatClampNeg))) (fun x4_2 => jn (fun (M_4 : Mem) => jn (fun (x5_6 : Int32) => nm ((if x5_6 = 0 then 0 else 1) : Int32) (fun v_8 => nm (up M_4 49 p1.toNatClampNeg ((M_4 49 p1.toNatClampNeg) + v_8)) (fun M_9 => some M_9))) (fun k163_5 => f_X11_laysRow_L90 fu p1 x4_2 M_4 k163_5 fu 1 0)) (fun k84_3 => f_X11_laysRow_L18 fu p1 p2 p3 x4_2 k84_3 fu 0 M)))
def f_X11_cellAt (fu : Nat) (p1 : Int32) (p2 : Int32) (M : Mem) : Option Int32 :=
  grd (inb p1 3) (grd (inb ((4 * ((12 * p1) + (M 51 p1.toNatClampNeg))) + p2) 144) (some (M 50 ((4 * ((12 * p1) + (M 51 p1.toNatClampNeg))) + p2).toNatClampNeg)))
def f_X11_areLinked_L4 (fu : Nat) (M : Mem) : Nat → Int32 → Int32 → Option Int32
  | 0, _, _ => none
  | n_4 + 1, x1_1, x2_2 =>
  (if (M 0 24) ≤ x2_2 then grd (isb x1_1) (some x1_1) else grd (inb x2_2 3) (bd (f_X11_cellAt fu (M 20 x2_2.toNatClampNeg) (M 21 x2_2.toNatClampNeg) M) (fun r_7 => jn (fun (_ : Unit) => nm (x2_2 + 1) (fun x2_9 => f_X11_areLinked_L4 fu M n_4 0 x2_9)) (fun k64_8 => (if x1_1 = 0 then k64_8 () else (if (f_X11_isNumber r_7) = 0 then k64_8 () else bd (f_X11_cellAt fu (M 22 x2_2.toNatClampNeg) (M 23 x2_2.toNatClampNeg) M) (fun r_13 => (if r_7 = r_13 then nm (x2_2 + 1) (fun x2_15 => f_X11_areLinked_L4 fu M n_4 1 x2_15) else k64_8 ()))))))))
def f_X11_areLinked (fu : Nat) (M : Mem) : Option Int32 :=
  f_X11_areLinked_L4 fu M fu 1 0
def f_X11_goesOn_L17 (fu : Nat) (k59_4 : Mem → Option (Int32 × Mem)) : Nat → Int32 → Mem → Option (Int32 × Mem)
  | 0, _, _ => none
  | n_17 + 1, x1_7, M_8 =>
  (if x1_7 ≤ 0 then k59_4 M_8 else grd (inb x1_7 3) ((if (M_8 51 x1_7.toNatClampNeg) = (M_8 49 x1_7.toNatClampNeg) then nm (up M_8 51 x1_7.toNatClampNeg 0) (fun M_12 => nm (x1_7 + (-1)) (fun x1_13 => grd (inb x1_13 3) (nm (up M_12 51 x1_13.toNatClampNeg ((M_12 51 x1_13.toNatClampNeg) + 1)) (fun M_15 => f_X11_goesOn_L17 fu k59_4 n_17 x1_13 M_15)))) else k59_4 M_8)))
def f_X11_goesOn (fu : Nat) (M : Mem) : Option (Int32 × Mem) :=
  nm ((M 0 22) - 1) (fun x1_1 => grd (inb x1_1 3) (nm (up M 51 x1_1.toNatClampNeg ((M 51 x1_1.toNatClampNeg) + 1)) (fun M_3 => jn (fun (M_5 : Mem) => (if (M_5 49 0) ≤ (M_5 51 0) then some (0, M_5) else some (1, M_5))) (fun k59_4 => f_X11_goesOn_L17 fu k59_4 fu x1_1 M_3))))
def f_X11_addsMatch_L2 (fu : Nat) (k56_1 : Mem → Option Mem) : Nat → Int32 → Mem → Option Mem
  | 0, _, _ => none
  | n_2 + 1, x1_6, M_7 =>
  (if (M_7 0 34) ≤ x1_6 then k56_1 M_7 else (if (M_7 0 37) ≤ (M_7 0 68) then k56_1 M_7 else grd (inb x1_6 3) (bd (f_X11_cellAt fu (M_7 28 x1_6.toNatClampNeg) (M_7 29 x1_6.toNatClampNeg) M_7) (fun r_12 => grd (inb ((3 * (M_7 0 68)) + x1_6) 120) (nm (up M_7 52 ((3 * (M_7 0 68)) + x1_6).toNatClampNeg r_12) (fun M_14 => nm (x1_6 + 1) (fun x1_15 => f_X11_addsMatch_L2 fu k56_1 n_2 x1_15 M_14)))))))
def f_X11_addsMatch (fu : Nat) (M : Mem) : Option Mem :=
  jn (fun (M_2 : Mem) => nm ((if (M_2 0 37) ≤ (M_2 0 68) then 0 else 1) : Int32) (fun v_4 => nm (up M_2 0 68 ((M_2 0 68) + v_4)) (fun M_5 => some M_5))) (fun k56_1 => f_X11_addsMatch_L2 fu k56_1 fu 0 M)
def f_X11_addsToGroup_L49 (fu : Nat) (M : Mem) (r_2 : Int32) (k82_6 : Int32 → Option Mem) : Nat → Int32 → Int32 → Option Mem
  | 0, _, _ => none
  | n_49 + 1, x3_23, x4_24 =>
  (if (M 0 71) ≤ x4_24 then k82_6 x3_23 else grd (inb x4_24 12) ((if (M 53 x4_24.toNatClampNeg) = r_2 then nm (x4_24 + 1) (fun x4_29 => f_X11_addsToGroup_L49 fu M r_2 k82_6 n_49 x4_24 x4_29) else nm (x4_24 + 1) (fun x4_28 => f_X11_addsToGroup_L49 fu M r_2 k82_6 n_49 x3_23 x4_28))))
def f_X11_addsToGroup (fu : Nat) (M : Mem) : Option Mem :=
  bd (f_X11_cellAt fu (M 28 0) (M 29 0) M) (fun r_2 => grd (inb ((M 0 34) - 1) 3) (bd (f_X11_cellAt fu (M 28 ((M 0 34) - 1).toNatClampNeg) (M 29 ((M 0 34) - 1).toNatClampNeg) M) (fun r_5 => jn (fun (x3_7 : Int32) => jn (fun (x3_9 : Int32) (M_10 : Mem) => grd (inb x3_9 12) (nm (up M_10 54 x3_9.toNatClampNeg ((M_10 54 x3_9.toNatClampNeg) + 1)) (fun M_12 => nm ((if (f_X11_isNumber r_5) = 0 then 0 else r_5) : Int32) (fun v_14 => nm (up M_12 55 x3_9.toNatClampNeg ((M_12 55 x3_9.toNatClampNeg) + v_14)) (fun M_15 => some M_15))))) (fun k123_8 => (if x3_7 = (-1) then nm (M 0 71) (fun x3_17 => grd (inb x3_17 12) (nm (up M 53 x3_17.toNatClampNeg r_2) (fun M_19 => nm (up M_19 54 x3_17.toNatClampNeg 0) (fun M_20 => nm (up M_20 55 x3_17.toNatClampNeg 0) (fun M_21 => nm (up M_21 0 71 ((M_21 0 71) + 1)) (fun M_22 => k123_8 x3_17 M_22)))))) else k123_8 x3_7 M))) (fun k82_6 => f_X11_addsToGroup_L49 fu M r_2 k82_6 fu (-1) 0))))
def f_X11_makesGroups_L38 (fu : Nat) (x2_9 : Int32) (M_10 : Mem) (k83_12 : Int32 → Option Mem) : Nat → Int32 → Int32 → Option Mem
  | 0, _, _ => none
  | n_38 + 1, x3_25, x4_26 =>
  (if (M_10 0 71) ≤ x4_26 then k83_12 x3_25 else grd (inb x4_26 12) (grd (inb x2_9 12) (nm ((if (f_X11_rankOf (M_10 53 x2_9.toNatClampNeg)) ≤ (f_X11_rankOf (M_10 53 x4_26.toNatClampNeg)) then 0 else 1) : Int32) (fun v_31 => nm (x3_25 + v_31) (fun x3_32 => nm (x4_26 + 1) (fun x4_33 => f_X11_makesGroups_L38 fu x2_9 M_10 k83_12 n_38 x3_32 x4_33))))))
def f_X11_makesGroups_L25 (fu : Nat) (x1_2 : Int32) (k147_6 : Mem → Option Mem) : Nat → Int32 → Mem → Option Mem
  | 0, _, _ => none
  | n_25 + 1, x2_9, M_10 =>
  (if (M_10 0 71) ≤ x2_9 then k147_6 M_10 else jn (fun (x3_13 : Int32) => (if x3_13 = x1_2 then grd (inb x2_9 12) (grd (inb (3 * x1_2) 120) (nm (up M_10 52 (3 * x1_2).toNatClampNeg (M_10 53 x2_9.toNatClampNeg)) (fun M_18 => grd (inb ((3 * x1_2) + 1) 120) (nm (up M_18 52 ((3 * x1_2) + 1).toNatClampNeg (M_18 54 x2_9.toNatClampNeg)) (fun M_20 => grd (inb ((3 * x1_2) + 2) 120) (nm (up M_20 52 ((3 * x1_2) + 2).toNatClampNeg (M_20 55 x2_9.toNatClampNeg)) (fun M_22 => nm (up M_22 0 68 (x1_2 + 1)) (fun M_23 => nm (x2_9 + 1) (fun x2_24 => f_X11_makesGroups_L25 fu x1_2 k147_6 n_25 x2_24 M_23))))))))) else nm (x2_9 + 1) (fun x2_15 => f_X11_makesGroups_L25 fu x1_2 k147_6 n_25 x2_15 M_10))) (fun k83_12 => f_X11_makesGroups_L38 fu x2_9 M_10 k83_12 fu 0 0))
def f_X11_makesGroups_L7 (fu : Nat) : Nat → Int32 → Mem → Option Mem
  | 0, _, _ => none
  | n_7 + 1, x1_2, M_3 =>
  (if (M_3 0 71) ≤ x1_2 then some M_3 else (if (M_3 0 37) ≤ x1_2 then some M_3 else jn (fun (M_7 : Mem) => nm (x1_2 + 1) (fun x1_8 => f_X11_makesGroups_L7 fu n_7 x1_8 M_7)) (fun k147_6 => f_X11_makesGroups_L25 fu x1_2 k147_6 fu 0 M_3)))
def f_X11_makesGroups (fu : Nat) (M : Mem) : Option Mem :=
  nm (up M 0 68 0) (fun M_1 => f_X11_makesGroups_L7 fu fu 0 M_1)
def f_X11_makes_L126 (fu : Nat) (k170_9 : Mem → Option Mem) : Nat → Int32 → Mem → Option Mem
  | 0, _, _ => none
  | n_126 + 1, x2_14, M_15 =>
  (if x2_14 = 0 then k170_9 M_15 else bd (f_X11_areLinked fu M_15) (fun r_18 => jn (fun (M_20 : Mem) => bm (f_X11_goesOn fu M_20) (fun r_22 M_23 => f_X11_makes_L126 fu k170_9 n_126 r_22 M_23)) (fun k162_19 => jn (fun (_ : Unit) => bd (f_X11_areLinked fu M_15) (fun r_26 => (if r_26 = 0 then k162_19 M_15 else bd (f_X11_addsMatch fu M_15) (fun M_29 => k162_19 M_29)))) (fun k151_24 => (if r_18 = 0 then k151_24 () else (if (M_15 0 38) = 0 then k151_24 () else bd (f_X11_addsToGroup fu M_15) (fun M_33 => k162_19 M_33)))))))
def f_X11_makes_L29 (fu : Nat) (p1 : Int32) (x3_35 : Int32) (k72_41 : Mem → Option Mem) : Nat → Int32 → Mem → Option Mem
  | 0, _, _ => none
  | n_29 + 1, x4_48, M_49 =>
  jn (fun (v_51 : Int32) => (if v_51 ≤ x4_48 then k72_41 M_49 else bd (f_X11_laysRow fu x3_35 p1 x4_48 M_49) (fun M_54 => nm (x4_48 + 1) (fun x4_55 => f_X11_makes_L29 fu p1 x3_35 k72_41 n_29 x4_55 M_54)))) (fun k55_50 => (if p1 = 0 then grd (inb x3_35 3) (grd (inb (M_49 19 x3_35.toNatClampNeg) 6) (k55_50 (M_49 1 (M_49 19 x3_35.toNatClampNeg).toNatClampNeg))) else grd (inb x3_35 3) (k55_50 (M_49 43 x3_35.toNatClampNeg))))
def f_X11_makes_L4 (fu : Nat) (p1 : Int32) (k97_1 : Int32 → Mem → Option Mem) : Nat → Int32 → Int32 → Mem → Option Mem
  | 0, _, _, _ => none
  | n_4 + 1, x2_34, x3_35, M_36 =>
  (if (M_36 0 22) ≤ x3_35 then k97_1 x2_34 M_36 else grd (inb x3_35 3) (nm (up M_36 49 x3_35.toNatClampNeg 0) (fun M_39 => nm (up M_39 51 x3_35.toNatClampNeg 0) (fun M_40 => jn (fun (M_42 : Mem) => jn (fun (_ : Unit) => nm (x3_35 + 1) (fun x3_44 => f_X11_makes_L4 fu p1 k97_1 n_4 0 x3_44 M_42)) (fun k89_43 => (if x2_34 = 0 then k89_43 () else (if (M_42 49 x3_35.toNatClampNeg) ≤ 0 then k89_43 () else nm (x3_35 + 1) (fun x3_47 => f_X11_makes_L4 fu p1 k97_1 n_4 1 x3_47 M_42))))) (fun k72_41 => f_X11_makes_L29 fu p1 x3_35 k72_41 fu 0 M_40)))))
def f_X11_makes (fu : Nat) (p1 : Int32) (M : Mem) : Option Mem :=
  jn (fun (x2_2 : Int32) (M_3 : Mem) => nm (up M_3 0 68 0) (fun M_4 => nm (up M_4 0 71 0) (fun M_5 => nm ((if (M_5 0 38) = 0 then (M_5 0 34) else 3) : Int32) (fun v_7 => nm (up M_5 0 69 v_7) (fun M_8 => jn (fun (M_10 : Mem) => (if (M_10 0 38) = 0 then some M_10 else bd (f_X11_makesGroups fu M_10) (fun M_13 => some M_13))) (fun k170_9 => f_X11_makes_L126 fu k170_9 fu x2_2 M_8)))))) (fun k97_1 => f_X11_makes_L4 fu p1 k97_1 fu 1 0 M)
def f_X11_isDrafted (fu : Nat) (M : Mem) : Option Int32 :=
  (if (M 0 22) ≤ 0 then some 0 else (if (M 0 34) ≤ 0 then some 0 else some 1))
def f_X11_claimed_L9 (fu : Nat) (M : Mem) (k65_2 : Int32 → Int32 → Option Int32) : Nat → Int32 → Int32 → Int32 → Option Int32
  | 0, _, _, _ => none
  | n_9 + 1, x1_7, x2_8, x3_9 =>
  (if (M 0 22) ≤ x3_9 then k65_2 x1_7 x2_8 else grd (inb x3_9 3) (nm ((if (M 46 x3_9.toNatClampNeg) ≤ x1_7 then x1_7 else (M 46 x3_9.toNatClampNeg)) : Int32) (fun v_13 => (if x2_8 ≤ (M 47 x3_9.toNatClampNeg) then nm (x3_9 + 1) (fun x3_15 => f_X11_claimed_L9 fu M k65_2 n_9 v_13 x2_8 x3_15) else nm (M 47 x3_9.toNatClampNeg) (fun x2_16 => nm (x3_9 + 1) (fun x3_17 => f_X11_claimed_L9 fu M k65_2 n_9 v_13 x2_16 x3_17))))))
def f_X11_claimed (fu : Nat) (M : Mem) : Option Int32 :=
  nm (M 0 7) (fun x2_1 => jn (fun (x1_3 : Int32) (x2_4 : Int32) => (if (M 0 78) = 0 then (if x2_4 < x1_3 then some (-1) else some x2_4) else some (-1))) (fun k65_2 => f_X11_claimed_L9 fu M k65_2 fu 0 x2_1 0))
def f_X11_ask_L159 (fu : Nat) (k183_21 : Mem → Option (Int32 × Mem)) : Nat → Int32 → Mem → Option (Int32 × Mem)
  | 0, _, _ => none
  | n_159 + 1, x3_26, M_27 =>
  (if 120 ≤ x3_26 then k183_21 M_27 else grd (inb x3_26 120) (nm (up M_27 56 x3_26.toNatClampNeg (M_27 52 x3_26.toNatClampNeg)) (fun M_30 => nm (x3_26 + 1) (fun x3_31 => f_X11_ask_L159 fu k183_21 n_159 x3_31 M_30))))
def f_X11_ask_L114 (fu : Nat) (k136_15 : Mem → Option (Int32 × Mem)) : Nat → Mem → Option (Int32 × Mem)
  | 0, _ => none
  | n_114 + 1, M_32 =>
  (if (M_32 0 22) ≤ (M_32 0 83) then k136_15 M_32 else bd (f_X11_nextSeat fu M_32) (fun r_35 => bd (f_X11_takes fu r_35 M_32) (fun M_37 => f_X11_ask_L114 fu k136_15 n_114 M_37)))
def f_X11_ask_L96 (fu : Nat) (k114_13 : Mem → Option (Int32 × Mem)) : Nat → Int32 → Mem → Option (Int32 × Mem)
  | 0, _, _ => none
  | n_96 + 1, x3_38, M_39 =>
  (if 3 ≤ x3_38 then k114_13 M_39 else grd (inb x3_38 3) (nm (up M_39 42 x3_38.toNatClampNeg 0) (fun M_42 => nm (x3_38 + 1) (fun x3_43 => f_X11_ask_L96 fu k114_13 n_96 x3_43 M_42))))
def f_X11_ask (fu : Nat) (p1 : Int32) (p2 : Int32) (M : Mem) : Option (Int32 × Mem) :=
  jn (fun (v_2 : Int32) => nm (up M 0 0 v_2) (fun M_3 => (if (M_3 0 0) ≤ 0 then nm (up M_3 0 52 (M_3 0 8)) (fun M_5 => nm (up M_5 0 53 p1) (fun M_6 => nm (up M_6 0 54 p2) (fun M_7 => nm (up M_7 0 78 0) (fun M_8 => nm (up M_8 0 80 0) (fun M_9 => nm (up M_9 0 81 0) (fun M_10 => nm (up M_10 0 82 0) (fun M_11 => nm (up M_11 0 83 0) (fun M_12 => jn (fun (M_14 : Mem) => jn (fun (M_16 : Mem) => bd (f_X11_makes fu 1 M_16) (fun M_18 => nm (up M_18 0 75 (M_18 0 68)) (fun M_19 => nm (up M_19 0 76 (M_19 0 69)) (fun M_20 => jn (fun (M_22 : Mem) => bd (f_X11_claimed fu M_22) (fun r_24 => nm (up M_22 0 79 r_24) (fun M_25 => some ((M_25 0 75), M_25)))) (fun k183_21 => f_X11_ask_L159 fu k183_21 fu 0 M_20))))) (fun k136_15 => f_X11_ask_L114 fu k136_15 fu M_14)) (fun k114_13 => f_X11_ask_L96 fu k114_13 fu 0 M_12))))))))) else some (0, M_3)))) (fun k39_1 => jn (fun (_ : Unit) => k39_1 1) (fun k23_44 => (if (f_X11_in p1 0 200) = 0 then k23_44 () else (if (f_X11_in p2 0 200) = 0 then k23_44 () else bd (f_X11_isDrafted fu M) (fun r_48 => (if r_48 = 0 then k39_1 2 else k39_1 0))))))
def f_X11_answers (fu : Nat) (M : Mem) : Option (Int32 × Mem) :=
  nm (up M 0 0 0) (fun M_1 => some ((M_1 0 75), M_1))
def f_X11_answer (fu : Nat) (p1 : Int32) (p2 : Int32) (M : Mem) : Option (Int32 × Mem) :=
  nm ((if (f_X11_in p1 0 ((M 0 75) - 1)) = 0 then 1 else (if (f_X11_in p2 0 ((M 0 76) - 1)) = 0 then 1 else 0)) : Int32) (fun v_3 => nm (up M 0 0 v_3) (fun M_4 => (if (M_4 0 0) ≤ 0 then grd (inb ((3 * p1) + p2) 120) (some ((M_4 56 ((3 * p1) + p2).toNatClampNeg), M_4)) else some (0, M_4))))
def f_X11_missing (fu : Nat) (M : Mem) : Option (Int32 × Mem) :=
  nm (up M 0 0 0) (fun M_1 => some ((M_1 0 78), M_1))
def f_X11_claims (fu : Nat) (M : Mem) : Option (Int32 × Mem) :=
  nm (up M 0 0 0) (fun M_1 => some ((M_1 0 79), M_1))
def f_X11_cost (fu : Nat) (M : Mem) : Option (Int32 × Mem) :=
  nm (up M 0 0 0) (fun M_1 => some ((M_1 0 80), M_1))
def f_X11_attempts (fu : Nat) (M : Mem) : Option (Int32 × Mem) :=
  nm (up M 0 0 0) (fun M_1 => some ((M_1 0 81), M_1))
def f_X11_shipped (fu : Nat) (M : Mem) : Option (Int32 × Mem) :=
  nm (up M 0 0 0) (fun M_1 => some ((M_1 0 82), M_1))
def f_X11_taken (fu : Nat) (p1 : Int32) (M : Mem) : Option (Int32 × Mem) :=
  nm ((if (f_X11_in p1 0 ((M 0 83) - 1)) = 0 then 1 else 0) : Int32) (fun v_2 => nm (up M 0 0 v_2) (fun M_3 => (if (M_3 0 0) ≤ 0 then grd (inb p1 3) (some ((M_3 57 p1.toNatClampNeg), M_3)) else some (0, M_3))))
def f_X11_size (fu : Nat) (p1 : Int32) (M : Mem) : Option (Int32 × Mem) :=
  nm ((if (f_X11_isSource p1) = 0 then 1 else 0) : Int32) (fun v_2 => nm (up M 0 0 v_2) (fun M_3 => (if (M_3 0 0) ≤ 0 then grd (inb p1 6) (some ((M_3 18 p1.toNatClampNeg), M_3)) else some (0, M_3))))
def f_X11_entries (fu : Nat) (M : Mem) : Option (Int32 × Mem) :=
  nm (up M 0 0 0) (fun M_1 => some ((M_1 0 39), M_1))
def f_X11_answersAnew (fu : Nat) (M : Mem) : Option (Int32 × Mem) :=
  bd (f_X11_isDrafted fu M) (fun r_2 => nm ((if r_2 = 0 then 1 else 0) : Int32) (fun v_4 => nm (up M 0 0 v_4) (fun M_5 => (if (M_5 0 0) ≤ 0 then bd (f_X11_makes fu 0 M_5) (fun M_8 => some ((M_8 0 68), M_8)) else some (0, M_5)))))
def f_X11_answerAnew (fu : Nat) (p1 : Int32) (p2 : Int32) (M : Mem) : Option (Int32 × Mem) :=
  bd (f_X11_isDrafted fu M) (fun r_2 => nm ((if r_2 = 0 then 1 else 0) : Int32) (fun v_4 => nm (up M 0 0 v_4) (fun M_5 => (if (M_5 0 0) ≤ 0 then bd (f_X11_makes fu 0 M_5) (fun M_8 => nm ((if (f_X11_in p1 0 ((M_8 0 68) - 1)) = 0 then 2 else (if (f_X11_in p2 0 ((M_8 0 69) - 1)) = 0 then 2 else 0)) : Int32) (fun v_11 => nm (up M_8 0 0 v_11) (fun M_12 => (if (M_12 0 0) ≤ 0 then grd (inb ((3 * p1) + p2) 120) (some ((M_12 52 ((3 * p1) + p2).toNatClampNeg), M_12)) else some (0, M_12))))) else some (0, M_5)))))
def f_X11_step (fu : Nat) (p1 : Int32) (p2 : Int32) (p3 : Int32) (p4 : Int32) (p5 : Int32) (p6 : Int32) (M : Mem) : Option (Int32 × Mem) :=
  nm ((if (f_X11_in p1 0 2) = 0 then 0 else (if p1 = 0 then (if p1 = 2 then (if p4 = 0 then (if p5 = 0 then 1 else 0) else 0) else 1) else (if p6 = 0 then (if p1 = 2 then (if p4 = 0 then (if p5 = 0 then 1 else 0) else 0) else 1) else 0))) : Int32) (fun v_10 => nm ((if (f_X11_isSource p2) = 0 then 1 else (if v_10 = 0 then 2 else (if (M 0 85) = 4 then 3 else 0))) : Int32) (fun v_14 => nm (up M 0 0 v_14) (fun M_15 => (if (M_15 0 0) ≤ 0 then grd (inb (M_15 0 85) 4) (nm (up M_15 58 (M_15 0 85).toNatClampNeg p1) (fun M_18 => grd (inb (M_18 0 85) 4) (nm (up M_18 59 (M_18 0 85).toNatClampNeg p2) (fun M_20 => grd (inb (M_20 0 85) 4) (nm (up M_20 60 (M_20 0 85).toNatClampNeg p3) (fun M_22 => grd (inb (M_22 0 85) 4) (nm (up M_22 61 (M_22 0 85).toNatClampNeg p4) (fun M_24 => grd (inb (M_24 0 85) 4) (nm (up M_24 62 (M_24 0 85).toNatClampNeg p5) (fun M_26 => grd (inb (M_26 0 85) 4) (nm (up M_26 63 (M_26 0 85).toNatClampNeg p6) (fun M_28 => nm (up M_28 0 85 ((M_28 0 85) + 1)) (fun M_29 => some ((M_29 0 85), M_29)))))))))))))) else some (0, M_15)))))
def f_X11_canStep (fu : Nat) (p1 : Int32) (M : Mem) : Option Int32 :=
  grd (inb p1 4) (nm (M 59 p1.toNatClampNeg) (fun x2_2 => (if (M 58 p1.toNatClampNeg) = 0 then bd (f_X11_canAdd fu x2_2 (M 60 p1.toNatClampNeg) (M 61 p1.toNatClampNeg) (M 62 p1.toNatClampNeg) (M 63 p1.toNatClampNeg) M) (fun r_12 => (if r_12 = 0 then some 1 else some 0)) else (if (M 58 p1.toNatClampNeg) = 1 then bd (f_X11_canChange fu x2_2 (M 60 p1.toNatClampNeg) (M 61 p1.toNatClampNeg) (M 62 p1.toNatClampNeg) M) (fun r_9 => (if r_9 = 0 then some 1 else some 0)) else bd (f_X11_placeOf fu x2_2 (M 60 p1.toNatClampNeg) M) (fun r_6 => (if r_6 = (-1) then some 0 else some 1))))))
def f_X11_doesStep_L123 (fu : Nat) (p1 : Int32) (x2_2 : Int32) (k169_6 : Mem → Option Mem) : Nat → Int32 → Mem → Option Mem
  | 0, _, _ => none
  | n_123 + 1, x3_10, M_11 =>
  (if 4 ≤ x3_10 then k169_6 M_11 else grd (inb p1 4) (bd (f_X11_placeOf fu x2_2 (M_11 60 p1.toNatClampNeg) M_11) (fun r_15 => grd (inb ((4 * ((12 * x2_2) + r_15)) + x3_10) 288) (grd (inb ((4 * p1) + x3_10) 16) (nm (up M_11 65 ((4 * p1) + x3_10).toNatClampNeg (M_11 3 ((4 * ((12 * x2_2) + r_15)) + x3_10).toNatClampNeg)) (fun M_18 => nm (x3_10 + 1) (fun x3_19 => f_X11_doesStep_L123 fu p1 x2_2 k169_6 n_123 x3_19 M_18)))))))
def f_X11_doesStep (fu : Nat) (p1 : Int32) (M : Mem) : Option Mem :=
  grd (inb p1 4) (nm (M 59 p1.toNatClampNeg) (fun x2_2 => nm (up M 64 p1.toNatClampNeg (M 60 p1.toNatClampNeg)) (fun M_3 => (if (M_3 58 p1.toNatClampNeg) = 0 then bm (f_X11_adds fu x2_2 (M_3 60 p1.toNatClampNeg) (M_3 61 p1.toNatClampNeg) (M_3 62 p1.toNatClampNeg) (M_3 63 p1.toNatClampNeg) M_3) (fun r_29 M_30 => nm (up M_30 64 p1.toNatClampNeg r_29) (fun M_31 => some M_31)) else (if (M_3 58 p1.toNatClampNeg) = 1 then bm (f_X11_kept fu x2_2 (M_3 61 p1.toNatClampNeg) (M_3 62 p1.toNatClampNeg) M_3) (fun r_21 M_22 => bm (f_X11_puts fu x2_2 (M_3 60 p1.toNatClampNeg) (M_3 61 p1.toNatClampNeg) r_21 M_22) (fun r_24 M_25 => grd (inb (4 * p1) 16) (nm (up M_25 65 (4 * p1).toNatClampNeg r_24) (fun M_27 => some M_27)))) else jn (fun (M_7 : Mem) => bd (f_X11_takesOut fu x2_2 (M_7 60 p1.toNatClampNeg) M_7) (fun M_9 => some M_9)) (fun k169_6 => f_X11_doesStep_L123 fu p1 x2_2 k169_6 fu 0 M_3))))))
def f_X11_takesBack (fu : Nat) (p1 : Int32) (M : Mem) : Option Mem :=
  grd (inb p1 4) (nm (M 59 p1.toNatClampNeg) (fun x2_2 => (if (M 58 p1.toNatClampNeg) = 0 then bd (f_X11_takesOut fu x2_2 (M 64 p1.toNatClampNeg) M) (fun M_16 => some M_16) else (if (M 58 p1.toNatClampNeg) = 1 then grd (inb (4 * p1) 16) (bm (f_X11_puts fu x2_2 (M 64 p1.toNatClampNeg) (M 61 p1.toNatClampNeg) (M 65 (4 * p1).toNatClampNeg) M) (fun r_13 M_14 => some M_14)) else grd (inb (4 * p1) 16) (grd (inb ((4 * p1) + 1) 16) (grd (inb ((4 * p1) + 2) 16) (grd (inb ((4 * p1) + 3) 16) (bd (f_X11_inserts fu x2_2 (M 64 p1.toNatClampNeg) (M 65 (4 * p1).toNatClampNeg) (M 65 ((4 * p1) + 1).toNatClampNeg) (M 65 ((4 * p1) + 2).toNatClampNeg) (M 65 ((4 * p1) + 3).toNatClampNeg) M) (fun M_10 => some M_10)))))))))
def f_X11_runs_L18 (fu : Nat) (p1 : Int32) (x2_2 : Int32) (k104_3 : Int32 → Mem → Option (Int32 × Mem)) : Nat → Int32 → Int32 → Int32 → Mem → Option (Int32 × Mem)
  | 0, _, _, _, _ => none
  | n_18 + 1, x3_7, x4_8, x5_9, M_10 =>
  (if 3 ≤ x5_9 then k104_3 x3_7 M_10 else bm (f_X11_tries fu x2_2 0 M_10) (fun r_13 M_14 => jn (fun (x3_16 : Int32) (x4_17 : Int32) (M_18 : Mem) => (if r_13 = 2 then (if x3_16 = 0 then some (0, M_18) else some (2, M_18)) else nm (x5_9 + 1) (fun x5_20 => f_X11_runs_L18 fu p1 x2_2 k104_3 n_18 x3_16 x4_17 x5_20 M_18))) (fun k82_15 => (if x3_7 = 0 then (if x4_8 = 0 then jn (fun (_ : Unit) => bd (f_X11_canStep fu p1 M_14) (fun r_26 => nm ((if r_26 = 0 then 1 else 0) : Int32) (fun v_28 => (if r_26 = 0 then k82_15 r_26 v_28 M_14 else bd (f_X11_doesStep fu p1 M_14) (fun M_31 => k82_15 r_26 v_28 M_31))))) (fun k56_24 => (if r_13 = 2 then k56_24 () else grd (inb x2_2 3) ((if (M_14 12 x2_2.toNatClampNeg) = 0 then k82_15 x3_7 x4_8 M_14 else k56_24 ())))) else k82_15 x3_7 x4_8 M_14) else k82_15 x3_7 x4_8 M_14))))
def f_X11_runs (fu : Nat) (p1 : Int32) (M : Mem) : Option (Int32 × Mem) :=
  grd (inb p1 4) (nm (f_X11_storeOf (M 59 p1.toNatClampNeg)) (fun x2_2 => jn (fun (x3_4 : Int32) (M_5 : Mem) => (if x3_4 = 0 then some (0, M_5) else some (1, M_5))) (fun k104_3 => f_X11_runs_L18 fu p1 x2_2 k104_3 fu 0 0 0 M)))
def f_X11_run_L67 (fu : Nat) (x2_8 : Int32) : Nat → Int32 → Mem → Option (Int32 × Mem)
  | 0, _, _ => none
  | n_67 + 1, x4_13, M_14 =>
  (if x4_13 < 0 then some (x2_8, M_14) else bd (f_X11_takesBack fu x4_13 M_14) (fun M_17 => nm (x4_13 + (-1)) (fun x4_18 => f_X11_run_L67 fu x2_8 n_67 x4_18 M_17)))
def f_X11_run_L37 (fu : Nat) (x1_5 : Int32) (k53_7 : Int32 → Int32 → Mem → Option (Int32 × Mem)) : Nat → Int32 → Mem → Option (Int32 × Mem)
  | 0, _, _ => none
  | n_37 + 1, x2_19, M_20 =>
  (if x1_5 ≤ x2_19 then some ((-1), M_20) else bm (f_X11_runs fu x2_19 M_20) (fun r_23 M_24 => (if 2 ≤ r_23 then nm (x2_19 + 1) (fun x2_26 => f_X11_run_L37 fu x1_5 k53_7 n_37 x2_26 M_24) else k53_7 x2_19 r_23 M_24)))
def f_X11_run (fu : Nat) (M : Mem) : Option (Int32 × Mem) :=
  nm ((if (M 0 85) = 0 then 1 else 0) : Int32) (fun v_2 => nm (up M 0 0 v_2) (fun M_3 => (if (M_3 0 0) ≤ 0 then nm (M_3 0 85) (fun x1_5 => nm (up M_3 0 85 0) (fun M_6 => jn (fun (x2_8 : Int32) (x3_9 : Int32) (M_10 : Mem) => nm ((if x3_9 = 1 then x2_8 else (x2_8 - 1)) : Int32) (fun v_12 => f_X11_run_L67 fu x2_8 fu v_12 M_10)) (fun k53_7 => f_X11_run_L37 fu x1_5 k53_7 fu 0 M_6))) else some (0, M_3))))
def f_X10_needPlace (fu : Nat) (p0 : Int32) (M : Mem) : Option XR :=
  (if p0 = 0 then some (1, 0, M) else some (0, 0, M))
def f_X10_needIndex (fu : Nat) (p0 : Int32) (p1 : Int32) (M : Mem) : Option XR :=
  nm ((if p0 < 0 then 0 else (if p1 ≤ p0 then 0 else 1)) : Int32) (fun v_3 => bx (f_X10_needPlace fu v_3 M) (fun r_4 M_5 => some (0, 0, M_5)) xer)
def f_X10_needArgument (fu : Nat) (p0 : Int32) (M : Mem) : Option XR :=
  (if p0 = 0 then some (2, 0, M) else some (0, 0, M))
def f_X10_needState (fu : Nat) (p0 : Int32) (M : Mem) : Option XR :=
  (if p0 = 0 then some (3, 0, M) else some (0, 0, M))
def f_X10_add (fu : Nat) (p1 : Int32) (p2 : Int32) (p3 : Int32) (p4 : Int32) (p5 : Int32) (M : Mem) : Option XR :=
  bx (f_X10_needIndex fu p1 6 M) (fun r_1 M_2 => bx (f_X10_needArgument fu (f_X10_rowFits (f_X10_storeOf p1) p2 p3 p4 p5) M_2) (fun r_4 M_5 => bd (f_X7_hasRoom fu p1 p2 M_5) (fun r_8 => bx (f_X10_needState fu r_8 M_5) (fun r_9 M_10 => bm (f_X7_addRow fu p1 p2 p3 p4 p5 M_10) (fun r_13 M_14 => some (0, r_13, M_14))) xer)) xer) xer
def f_X10_needCell (fu : Nat) (p1 : Int32) (p2 : Int32) (p3 : Int32) (M : Mem) : Option XR :=
  bx (f_X10_needIndex fu p1 6 M) (fun r_1 M_2 => bx (f_X10_needIndex fu p3 (f_X10_columnsIn (f_X10_storeOf p1)) M_2) (fun r_4 M_5 => grd (inb p1 6) (nm (61 + 1 + 3 * p1.toNatClampNeg) (fun a_8 => bd (f_X6_hasMark fu a_8 p2 M_5) (fun r_10 => bx (f_X10_needPlace fu r_10 M_5) (fun r_11 M_12 => some (0, 0, M_12)) xer)))) xer) xer
def f_X10_change (fu : Nat) (p1 : Int32) (p2 : Int32) (p3 : Int32) (p4 : Int32) (M : Mem) : Option XR :=
  bx (f_X10_needCell fu p1 p2 p3 M) (fun r_1 M_2 => bx (f_X10_needArgument fu (f_X10_mayChangeTo (f_X10_storeOf p1) p3 p4) M_2) (fun r_4 M_5 => bm (f_X7_changeCell fu p1 p2 p3 p4 M_5) (fun r_8 M_9 => some (0, r_8, M_9))) xer) xer
def f_X10_remove (fu : Nat) (p1 : Int32) (p2 : Int32) (M : Mem) : Option XR :=
  bx (f_X10_needIndex fu p1 6 M) (fun r_1 M_2 => grd (inb p1 6) (nm (61 + 1 + 3 * p1.toNatClampNeg) (fun a_5 => bd (f_X6_hasMark fu a_5 p2 M_2) (fun r_7 => bx (f_X10_needPlace fu r_7 M_2) (fun r_8 M_9 => bd (f_X7_removeRow fu p1 p2 M_9) (fun M_12 => nm (61 + 1 + 3 * p1.toNatClampNeg) (fun a_13 => some (0, (M_12 a_13 2), M_12)))) xer)))) xer
def f_X10_count (fu : Nat) (p1 : Int32) (M : Mem) : Option XR :=
  bx (f_X10_needIndex fu p1 6 M) (fun r_1 M_2 => grd (inb p1 6) (nm (61 + 1 + 3 * p1.toNatClampNeg) (fun a_5 => some (0, (M_2 a_5 2), M_2)))) xer
def f_X10_cell (fu : Nat) (p1 : Int32) (p2 : Int32) (p3 : Int32) (M : Mem) : Option XR :=
  bx (f_X10_needCell fu p1 p2 p3 M) (fun r_1 M_2 => grd (inb p1 6) (nm (61 + 1 + 3 * p1.toNatClampNeg) (fun a_5 => bd (f_X6_placeOf fu a_5 p2 M_2) (fun r_7 => bd (f_X6_cellAt fu a_5 r_7 p3 M_2) (fun r_9 => some (0, r_9, M_2)))))) xer
def f_X10_setPace (fu : Nat) (p1 : Int32) (p2 : Int32) (p3 : Int32) (M : Mem) : Option XR :=
  bx (f_X10_needIndex fu p1 3 M) (fun r_1 M_2 => nm ((if (f_X10_isIn p2 0 30) = 0 then 0 else (if (f_X10_isIn p3 0 60) = 0 then 0 else 1)) : Int32) (fun v_6 => bx (f_X10_needArgument fu v_6 M_2) (fun r_7 M_8 => grd (inb p1 3) (nm (M_8 49 p1.toNatClampNeg) (fun x4_11 => nm (up M_8 49 p1.toNatClampNeg p2) (fun M_12 => nm (up M_12 4 p1.toNatClampNeg p3) (fun M_13 => some (0, x4_11, M_13)))))) xer)) xer
def f_X10_setBounds (fu : Nat) (p1 : Int32) (p2 : Int32) (p3 : Int32) (M : Mem) : Option XR :=
  bx (f_X10_needIndex fu p1 3 M) (fun r_1 M_2 => nm ((if (f_X10_isIn p2 1 20) = 0 then 0 else (if (f_X10_isIn p3 0 12) = 0 then 0 else 1)) : Int32) (fun v_6 => bx (f_X10_needArgument fu v_6 M_2) (fun r_7 M_8 => grd (inb p1 3) (nm (M_8 50 p1.toNatClampNeg) (fun x4_11 => nm (up M_8 50 p1.toNatClampNeg p2) (fun M_12 => nm (up M_12 51 p1.toNatClampNeg p3) (fun M_13 => some (0, x4_11, M_13)))))) xer)) xer
def f_X10_setLease (fu : Nat) (p1 : Int32) (p2 : Int32) (M : Mem) : Option XR :=
  bx (f_X10_needIndex fu p1 3 M) (fun r_1 M_2 => bx (f_X10_needArgument fu (f_X10_isIn p2 0 200) M_2) (fun r_4 M_5 => grd (inb p1 3) (nm (M_5 5 p1.toNatClampNeg) (fun x3_8 => nm (up M_5 5 p1.toNatClampNeg p2) (fun M_9 => bd (f_X3_sweep fu M_9) (fun M_11 => some (0, x3_8, M_11)))))) xer) xer
def f_X10_fail (fu : Nat) (p1 : Int32) (p2 : Int32) (p3 : Int32) (M : Mem) : Option XR :=
  bx (f_X10_needIndex fu p1 3 M) (fun r_1 M_2 => bx (f_X10_needArgument fu (f_X10_isIn p2 0 20) M_2) (fun r_4 M_5 => grd (inb p1 3) (nm (M_5 52 p1.toNatClampNeg) (fun x4_8 => nm (up M_5 52 p1.toNatClampNeg p2) (fun M_9 => grd (isb p3) (nm (up M_9 53 p1.toNatClampNeg p3) (fun M_11 => some (0, x4_8, M_11))))))) xer) xer
def f_X10_forbid (fu : Nat) (p1 : Int32) (p2 : Int32) (p3 : Int32) (M : Mem) : Option XR :=
  bx (f_X10_needIndex fu p1 6 M) (fun r_1 M_2 => bx (f_X10_needIndex fu p2 3 M_2) (fun r_4 M_5 => nm ((p1 * 3) + p2) (fun x4_7 => grd (inb x4_7 18) (nm (M_5 54 x4_7.toNatClampNeg) (fun x5_9 => grd (isb p3) (nm (up M_5 54 x4_7.toNatClampNeg p3) (fun M_11 => grd (isb x5_9) (some (0, x5_9, M_11)))))))) xer) xer
def f_X10_pass (fu : Nat) (p1 : Int32) (M : Mem) : Option XR :=
  bx (f_X10_needArgument fu (f_X10_isIn p1 1 100) M) (fun r_1 M_2 => bd (f_X8_goOnTo fu ((M_2 1 0) + p1) M_2) (fun M_5 => some (0, (M_5 1 0), M_5))) xer
def f_X10_seat (fu : Nat) (p1 : Int32) (M : Mem) : Option XR :=
  bx (f_X10_needIndex fu p1 6 M) (fun r_1 M_2 => nm ((if 3 ≤ (M_2 80 9) then 0 else 1) : Int32) (fun v_5 => bx (f_X10_needState fu v_5 M_2) (fun r_6 M_7 => bm (f_X4_addSeat fu p1 M_7) (fun r_10 M_11 => some (0, r_10, M_11))) xer)) xer
def f_X10_link (fu : Nat) (p1 : Int32) (p2 : Int32) (p3 : Int32) (p4 : Int32) (M : Mem) : Option XR :=
  bd (f_X4_hasColumn fu p1 p2 M) (fun r_2 => jn (fun (v_4 : Int32) => bx (f_X10_needPlace fu v_4 M) (fun r_5 M_6 => nm ((if p3 ≤ p1 then 0 else 1) : Int32) (fun v_9 => bx (f_X10_needArgument fu v_9 M_6) (fun r_10 M_11 => nm ((if 3 ≤ (M_11 80 10) then 0 else 1) : Int32) (fun v_14 => bx (f_X10_needState fu v_14 M_11) (fun r_15 M_16 => bm (f_X4_addLink fu p1 p2 p3 p4 M_16) (fun r_19 M_20 => some (0, r_19, M_20))) xer)) xer)) xer) (fun k30_3 => jn (fun (_ : Unit) => k30_3 0) (fun k29_21 => (if r_2 = 0 then k29_21 () else bd (f_X4_hasColumn fu p3 p4 M) (fun r_24 => (if r_24 = 0 then k29_21 () else k30_3 1))))))
def f_X10_where (fu : Nat) (p1 : Int32) (p2 : Int32) (p3 : Int32) (p4 : Int32) (M : Mem) : Option XR :=
  bd (f_X4_hasColumn fu p1 p2 M) (fun r_2 => bx (f_X10_needPlace fu r_2 M) (fun r_3 M_4 => bx (f_X10_needArgument fu (f_X10_isCondition p3 p4) M_4) (fun r_6 M_7 => nm ((if 4 ≤ (M_7 80 11) then 0 else 1) : Int32) (fun v_10 => bx (f_X10_needState fu v_10 M_7) (fun r_11 M_12 => bm (f_X4_addCondition fu p1 p2 p3 p4 M_12) (fun r_15 M_16 => some (0, r_15, M_16))) xer)) xer) xer)
def f_X10_out (fu : Nat) (p1 : Int32) (p2 : Int32) (M : Mem) : Option XR :=
  bd (f_X4_hasColumn fu p1 p2 M) (fun r_2 => bx (f_X10_needPlace fu r_2 M) (fun r_3 M_4 => nm ((if 3 ≤ (M_4 80 12) then 0 else 1) : Int32) (fun v_7 => bx (f_X10_needState fu v_7 M_4) (fun r_8 M_9 => bm (f_X4_addOutput fu p1 p2 M_9) (fun r_12 M_13 => some (0, r_12, M_13))) xer)) xer)
def f_X10_shape (fu : Nat) (p1 : Int32) (p2 : Int32) (M : Mem) : Option XR :=
  bx (f_X10_needArgument fu (f_X10_isIn p1 1 40) M) (fun r_1 M_2 => nm (up M_2 80 13 p1) (fun M_4 => grd (isb p2) (nm (up M_4 80 14 p2) (fun M_6 => some (0, 0, M_6))))) xer
def f_X10_ask_L66 (fu : Nat) (k97_14 : Mem → Option XR) : Nat → Int32 → Mem → Option XR
  | 0, _, _ => none
  | n_66 + 1, x3_18, M_19 =>
  (if (M_19 80 9) ≤ x3_18 then k97_14 M_19 else bd (f_X1_nextSeat fu M_19) (fun r_22 => bd (f_X1_takeSeat fu r_22 M_19) (fun M_24 => nm (x3_18 + 1) (fun x3_25 => f_X10_ask_L66 fu k97_14 n_66 x3_25 M_24))))
def f_X10_ask (fu : Nat) (p1 : Int32) (p2 : Int32) (M : Mem) : Option XR :=
  nm ((if (f_X10_isIn p1 0 200) = 0 then 0 else (if (f_X10_isIn p2 0 200) = 0 then 0 else 1)) : Int32) (fun v_3 => bx (f_X10_needArgument fu v_3 M) (fun r_4 M_5 => bd (f_X4_isQuery fu M_5) (fun r_8 => bx (f_X10_needState fu r_8 M_5) (fun r_9 M_10 => bd (f_X1_begin fu p1 ((M_10 1 0) + p2) (M_10 1 1) M_10) (fun M_13 => jn (fun (M_15 : Mem) => bd (f_X1_end fu M_15) (fun M_17 => some (0, (M_17 90 5), M_17))) (fun k97_14 => f_X10_ask_L66 fu k97_14 fu 0 M_13))) xer)) xer)
def f_X10_answer (fu : Nat) (p1 : Int32) (p2 : Int32) (M : Mem) : Option XR :=
  bd (f_X0_hasCell fu 90 p1 p2 M) (fun r_2 => bx (f_X10_needPlace fu r_2 M) (fun r_3 M_4 => bd (f_X0_answerAt fu 90 p1 p2 M_4) (fun r_7 => some (0, r_7, M_4))) xer)
def f_X10_taken (fu : Nat) (p1 : Int32) (M : Mem) : Option XR :=
  bx (f_X10_needIndex fu p1 (M 90 12) M) (fun r_1 M_2 => grd (inb p1 3) (some (0, (((M_2 93 p1.toNatClampNeg) * 10) + (M_2 94 p1.toNatClampNeg)), M_2))) xer
def f_X10_size (fu : Nat) (p1 : Int32) (M : Mem) : Option XR :=
  bx (f_X10_needIndex fu p1 6 M) (fun r_1 M_2 => grd (inb p1 6) (some (0, (M_2 59 p1.toNatClampNeg), M_2))) xer
def f_X10_answersAnew (fu : Nat) (M : Mem) : Option XR :=
  bd (f_X4_isQuery fu M) (fun r_2 => bx (f_X10_needState fu r_2 M) (fun r_3 M_4 => bd (f_X10_makeAnew fu M_4) (fun M_7 => some (0, (M_7 105 5), M_7))) xer)
def f_X10_answerAnew (fu : Nat) (p1 : Int32) (p2 : Int32) (M : Mem) : Option XR :=
  bd (f_X4_isQuery fu M) (fun r_2 => bx (f_X10_needState fu r_2 M) (fun r_3 M_4 => bd (f_X10_makeAnew fu M_4) (fun M_7 => bd (f_X0_hasCell fu 105 p1 p2 M_7) (fun r_9 => bx (f_X10_needPlace fu r_9 M_7) (fun r_10 M_11 => bd (f_X0_answerAt fu 105 p1 p2 M_11) (fun r_14 => some (0, r_14, M_11))) xer))) xer)
def f_X10_step (fu : Nat) (p1 : Int32) (p2 : Int32) (p3 : Int32) (p4 : Int32) (p5 : Int32) (p6 : Int32) (M : Mem) : Option XR :=
  bx (f_X10_needIndex fu p2 6 M) (fun r_1 M_2 => bx (f_X10_needArgument fu (f_X10_isStep p1 p4 p5 p6) M_2) (fun r_4 M_5 => nm ((if 4 ≤ (M_5 122 9) then 0 else 1) : Int32) (fun v_8 => bx (f_X10_needState fu v_8 M_5) (fun r_9 M_10 => bm (f_X2_addStep fu p1 p2 p3 p4 p5 p6 M_10) (fun r_13 M_14 => some (0, r_13, M_14))) xer)) xer) xer
def f_X10_run (fu : Nat) (M : Mem) : Option XR :=
  nm ((if (M 122 9) ≤ 0 then 0 else 1) : Int32) (fun v_2 => bx (f_X10_needState fu v_2 M) (fun r_3 M_4 => bm (f_X2_runSteps fu M_4) (fun r_7 M_8 => some (0, r_7, M_8))) xer)
