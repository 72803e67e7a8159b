section Take3L
variable {fu t u i j s o c p g a b e fr nS nL nC nO l : Nat} {M m N n P q : Mem} {A B : List Row} {L : List Ent} {E : Ent} {RR : Nat → List Row} {tk : Nat → Bool} {opn : Bool} {sr kt : Nat → Nat}
theorem tk58 {k96 : Mem → Option Mem} (hi : i < 3) (he : e < 6) (hB : B.length ≤ 10) (h150 : M 150 i = nI B.length) : ∀ d x n (N : Mem), x + d = B.length → d < n → (∀ a, a ≠ 149 → N a = M a) → (∀ j, lg (N 149) j = if 10 * i ≤ j ∧ j < 10 * i + x then lg (M 148) (10 * e + (j - 10 * i)) else lg (M 149) j) →
    ∃ N', f_L_take_L58 fu (nI i) (nI e) k96 n (nI x) N = k96 N' ∧ (∀ a, a ≠ 149 → N' a = M a) ∧ (∀ j, lg (N' 149) j = if 10 * i ≤ j ∧ j < 10 * i + B.length then lg (M 148) (10 * e + (j - 10 * i)) else lg (M 149) j) := by
  intro d
  induction d with
  | zero =>
    intro x n N h1 h2 h3 h4
    obtain ⟨n, rfl⟩ := fu1 h2
    obtain rfl : x = B.length := by omega
    refine ⟨N, ?_, h3, h4⟩
    simp (disch := omega) only [f_L_take_L58, inb_nI, grd_true, nI_clamp, h3 150 (by omega), h150, nI_leI, Nat.le_refl, if_true]
  | succ d ih =>
    intro x n N h1 h2 h3 h4
    obtain ⟨n, rfl⟩ := fu1 h2
    have h5 : ¬ B.length ≤ x := by omega
    have e5 : (10 : Int32) * nI i + nI x = nI (10 * i + x) := by rw [show (10 : Int32) = nI 10 from rfl, pk_mul, nI_add]
    have e6 : (10 : Int32) * nI e + nI x = nI (10 * e + x) := by rw [show (10 : Int32) = nI 10 from rfl, pk_mul, nI_add]
    simp (disch := omega) only [f_L_take_L58, inb_nI, grd_true, nI_clamp, h3 150 (by omega), h3 148 (by omega), h150, nI_leI, h5, if_false, e5, e6, nm_d, nI_1]
    refine ih (x + 1) n _ (by omega) (by omega) (fun a ha => by rw [upL_n ha, h3 a ha]) (fun j => ?_)
    by_cases hj : j = 10 * i + x
    · subst hj
      rw [upL_s, if_pos (by omega)]
      congr 1
      omega
    · rw [upL_m hj, h4]
      by_cases h7 : 10 * i ≤ j ∧ j < 10 * i + x
      · rw [if_pos h7, if_pos (by omega)]
      · rw [if_neg h7, if_neg (by omega)]
theorem takeEnt (hfu : 5000 ≤ fu) (hi : i < nS) (hs6 : s < 6) (hEs : E.1 = s) (h83 : m 0 83 = nI p) (hp3 : p < 3) (h78 : m 0 78 = nI o) (ho : o < 8) (hbit : o.testBit i = false) (ht : t < 2 ^ 26) (hAL : AL P q t u nS nL nC nO RR) (hSLo : SLo i P q M m) (hFL : FLk i P M) (hFM : FMj i q m) (he : e < 6) (hE : LEnt P e u sr kt E) (hM : EM1 q e E) (hH : HIST P t u sr kt) : ∃ N n, tkE fu (nI i) (nI s) (nI e) P = some N ∧ bd (f_X11_serves fu (nI e) (nI i) q) (fun M_45 => mk128 (nI i) 0 M_45) = some n ∧ TKD N n M m t t u i p o nS nL nC nO RR := by
  have hS3 := hAL.2.1.2.1.2
  have i3 : i < 3 := by omega
  have hu := hH.2.1
  have hq7 : q 0 7 = nI u := hAL.1.1.1.2.2
  obtain ⟨g, g1, ⟨a1, a2, a3, a4, a5⟩, ⟨b1, b2⟩, c1, c2, c3, c4, c5, c6, c7⟩ := hE
  rw [hEs] at c1 c2
  let B := E.2.2.2.2.2.2
  have hB10 : B.length ≤ 10 := b1
  have e8 : (8 : Int32) * nI e + 3 = nI (8 * e + 3) := by rw [show (8 : Int32) = nI 8 from rfl, show (3 : Int32) = nI 3 from rfl, pk_mul, nI_add]
  have e82 : (8 : Int32) * nI e + 2 = nI (8 * e + 2) := by rw [show (8 : Int32) = nI 8 from rfl, show (2 : Int32) = nI 2 from rfl, pk_mul, nI_add]
  have e41 : (4 : Int32) * nI i + 1 = nI (4 * i + 1) := by rw [show (4 : Int32) = nI 4 from rfl, pk_mul, nI_1]
  have e4 : (4 : Int32) * nI i = nI (4 * i) := pk_mul 4 i
  let P1 := up P 150 i (nI B.length)
  obtain ⟨P2, f1, f2, f3⟩ := tk58 (fu := fu) (i := i) (e := e) (B := B) (M := P1) (k96 := fun (M_95 : Mem) => grd (inb (4 * nI i) 12) (nm (up M_95 151 (4 * nI i).toNatClampNeg 0) (fun M_97 => grd (inb ((4 * nI i) + 1) 12) (nm (up M_97 151 ((4 * nI i) + 1).toNatClampNeg 0) (fun M_99 => grd (inb ((8 * nI e) + 2) 48) (bd (f_L_right fu (nI i) (nI s) (M_99 147 ((8 * nI e) + 2).toNatClampNeg) M_99) (fun M_102 => some M_102))))))) i3 he hB10 up_s B.length 0 fu P1 (by omega) (by omega) (fun _ _ => rfl) (fun j => by rw [if_neg (by omega)])
  let P3 := up (up P2 151 (4 * i) 0) 151 (4 * i + 1) 0
  have o3 : ∀ x, x ≠ 149 → x ≠ 150 → x ≠ 151 → P3 x = P x := fun x z1 z2 z3 => by show up (up P2 _ _ _) _ _ _ x = _; rw [up_n z3, up_n z3, f2 x z1]; exact up_n z2
  have o151 : ∀ j, j ≠ 4 * i → j ≠ 4 * i + 1 → P3 151 j = P 151 j := fun j z1 z2 => by show up (up P2 _ _ _) _ _ _ 151 j = _; rw [up_m z2, up_m z1, f2 151 (by omega)]; show up P _ _ _ 151 j = _; rw [up_n (by omega)]
  have h3H : HIST P3 t u sr kt := hH.cg (o3 144 (by omega) (by omega) (by omega)) (by rw [o3 152 (by omega) (by omega) (by omega)]) (Nat.le_refl _)
  obtain ⟨N, r1, r2, r3, r4, r5⟩ := right_L (fu := fu) (g := g) hfu i3 hs6 h3H (by omega) g1
  have oN : ∀ x, x ≠ 149 → x ≠ 150 → x ≠ 151 → N x = P x := fun x z1 z2 z3 => by rw [r2 x z3, o3 x z1 z2 z3]
  have oN151 : ∀ j, j ≠ 4 * i → j ≠ 4 * i + 1 → j ≠ 4 * i + 2 → j ≠ 4 * i + 3 → N 151 j = P 151 j := fun j z1 z2 z3 z4 => by rw [r3 j z3 z4, o151 j z1 z2]
  have N149 : ∀ j, lg (N 149) j = if 10 * i ≤ j ∧ j < 10 * i + B.length then lg (P 148) (10 * e + (j - 10 * i)) else lg (P 149) j := fun j => by
    rw [r2 149 (by omega)]
    show lg (up (up P2 _ _ _) _ _ _ 149) j = _
    rw [up_n (by omega), up_n (by omega), f3 j]
    show (if _ then lg (up P 150 i _ 148) _ else lg (up P 150 i _ 149) j) = _
    rw [up_n (by omega), up_n (by omega)]
  have N150 : ∀ j, N 150 j = if j = i then nI B.length else P 150 j := fun j => by
    rw [r2 150 (by omega)]
    show up (up P2 _ _ _) _ _ _ 150 j = _
    rw [up_n (by omega), up_n (by omega), f2 150 (by omega)]
    show up P 150 i _ 150 j = _
    by_cases hj : j = i
    · subst hj; rw [up_s, if_pos rfl]
    · rw [up_m hj, if_neg hj]
  obtain ⟨q1, s1, s2, s3, s4, s5, s6⟩ := serves_eq (fu := fu) hfu he i3 hM
  have eL : tkE fu (nI i) (nI s) (nI e) P = some N := by
    unfold tkE
    rw [e8, inb_nI (by omega) (by omega), grd_true, inb_nI i3 (by omega), grd_true, nI_clamp (show i < 2 ^ 31 by omega), nI_clamp (show 8 * e + 3 < 2 ^ 31 by omega), a4]
    refine Eq.trans f1 ?_
    simp only [nm_d, e4, nI_1]
    rw [inb_nI (by omega) (by omega), grd_true, inb_nI (by omega) (by omega), grd_true, nI_clamp (show 4 * i < 2 ^ 31 by omega), nI_clamp (show 4 * i + 1 < 2 ^ 31 by omega), e82, inb_nI (by omega) (by omega), grd_true, nI_clamp (show 8 * e + 2 < 2 ^ 31 by omega), show up (up P2 151 (4 * i) 0) 151 (4 * i + 1) 0 = P3 from rfl, o3 147 (by omega) (by omega) (by omega), a3, r1, bd_some]
  have hALN : AL N q1 t u nS nL nC nO RR := (hAL.l (fun x hx => oN x (by omega) (by omega) (by omega))).md (fun x z1 z2 => s5 x (by omega) (by omega) (by omega) (by omega) (by omega)) (fun j _ => by rw [s5 0 (by omega) (by omega) (by omega) (by omega) (by omega)])
  have hlw : lw sr s g ≤ g := lw_le
  let bb := match fw sr s g u with | some w => w - 1 | none => u
  have hbb : bb ≤ u := by
    show (match fw sr s g u with | some w => w - 1 | none => u) ≤ u
    cases hf : fw sr s g u with
    | none => exact Nat.le_refl _
    | some w => exact Nat.le_trans (Nat.sub_le w 1) (fw_in hf).2.1
  have q47 : q1 47 i = nI bb := by
    rw [s4]
    show (upd (q 47) i _) i = nI (match fw sr s g u with | some w => w - 1 | none => u)
    rw [show upd (q 47) i (if nn E.2.2.2.1 = -1 then q 0 7 else nn E.2.2.2.1) i = (if nn E.2.2.2.1 = -1 then q 0 7 else nn E.2.2.2.1) by simp [upd], c2]
    cases hf : fw sr s g u with
    | none => rw [if_pos (show nn (Option.map (fun i => nI (i - 1)) none) = -1 from rfl)]; exact hq7
    | some w =>
      have := (fw_in hf).2.1
      rw [if_neg (show ¬ nn (Option.map (fun i => nI (i - 1)) (some w)) = -1 from nI_nm1 (by omega))]
      rfl
  obtain ⟨n, y1, y2⟩ := takeFin (M := M) (N := N) (q := q1) (A := B) (a := lw sr s g) (b := bb) (h := 0) (opn := false) (t := t) (t' := t) i3 h83 hp3 h78 ho hbit (by omega) ⟨Nat.le_refl _, by omega⟩ hALN ⟨⟨by rw [N150, if_pos rfl], hB10, fun x r hx => by
      have := gl_lt hx
      rw [N149, if_pos (by omega), show 10 * i + x - 10 * i = x by omega]
      exact b2 x r hx⟩, s2, c4⟩ (SLo.trans (fun i' C z1 z2 z3 => ⟨z3.1.cg (by rw [N150, if_neg z2]) (fun x hx => by rw [N149, if_neg (by omega)]), s6 i' C z1 z2 z3.2.1, z3.2.2⟩) hSLo)
    (by rw [r3 _ (by omega) (by omega)]; show up (up P2 _ _ _) _ _ _ 151 (4 * i) = _; rw [up_m (by omega), up_s]; rfl) (by rw [r3 _ (by omega) (by omega)]; show up (up P2 _ _ _) _ _ _ 151 (4 * i + 1) = _; rw [up_s]; rfl) r4 r5 (by omega) hbb (by rw [s3]; simp [upd]; exact c1) q47 (FLk.trans ⟨fun x _ _ _ z4 z5 z6 _ _ _ => oN x z4 z5 z6, fun j _ _ _ _ _ _ _ => by rw [oN 152 (by omega) (by omega) (by omega)], fun j _ => by rw [oN 153 (by omega) (by omega) (by omega)], fun j hj => oN151 j (by omega) (by omega) (by omega) (by omega)⟩ hFL) (FMj.trans ⟨fun x hx => s5 x (by omega) (by omega) (by omega) (by omega) (by omega), fun j hj => by rw [s3, s4]; simp [upd, hj], fun j _ _ _ _ _ _ _ _ => by rw [s5 0 (by omega) (by omega) (by omega) (by omega) (by omega)]⟩ hFM)
  exact ⟨N, n, eL, by rw [s1, bd_some]; exact y1, y2⟩
theorem take_L (hfu : 5000 ≤ fu) (hi : i < nS) (hit : tk i = false) (h83 : m 0 83 = nI p) (hp3 : p < 3) (h78 : m 0 78 = nI o) (ho : o < 8) (hbit : o.testBit i = false) (ht : t + 480 < 2 ^ 26) (hAL : AL M m t u nS nL nC nO RR) (he3 : e3 M = true) (hT : TKL M m tk p) (htk : ∀ j, j < 3 → tk j = true → ∃ A, SL M m j A) (hfr : m 0 53 = nI fr) : ∃ N n t', f_L_take fu (nI i) M = some N ∧ f_X11_takes fu (nI i) m = some n ∧ TKD N n M m t t' u i p o nS nL nC nO RR := by
  obtain ⟨s, hs6, hs⟩ := hAL.2.1.2.src hi
  have hS3 := hAL.2.1.2.1.2
  have i3 : i < 3 := by omega
  let M6 := up M 152 13 0
  let m1 := up m 0 55 0
  have oM : ∀ x, x ≠ 152 → M6 x = M x := fun x hx => up_n hx
  have oM2 : ∀ j, j ≠ 13 → M6 152 j = M 152 j := fun j hj => up_m hj
  have om : ∀ x, x ≠ 0 → m1 x = m x := fun x hx => up_n hx
  have om0 : ∀ j, j ≠ 55 → m1 0 j = m 0 j := fun j hj => up_m hj
  have hDS : DS m1 m := ⟨fun a _ _ => om a (by omega), fun j _ _ => om0 j (by omega)⟩
  have hQ6 : QS M6 m1 := by
    obtain ⟨w1, w2, w3, w4, w5, w6, w7⟩ := hAL.1.2.2.2
    exact ⟨by rw [oM2 4 (by omega), om0 52 (by omega)]; exact w1, by rw [oM2 5 (by omega), om0 53 (by omega)]; exact w2, by rw [oM2 6 (by omega), om0 54 (by omega)]; exact w3, by rw [oM2 7 (by omega), om0 80 (by omega)]; exact w4, by rw [oM2 8 (by omega), om0 81 (by omega)]; exact w5, by rw [oM2 9 (by omega), om0 82 (by omega)]; exact w6, by show up M 152 13 0 152 13 = up m 0 55 0 0 55; rw [up_s, up_s]⟩
  have hAL6 : AL M6 m1 t u nS nL nC nO RR := hAL.of (hAL.1.1.cg (oM 147 (by omega)) (oM 148 (by omega)) (oM 144 (by omega)) ⟨oM2 0 (by omega), oM2 1 (by omega), oM2 3 (by omega)⟩ (om0 7 (by omega)) (om0 8 (by omega)) (om0 39 (by omega)) (om 5 (by omega)) (fun a _ _ => om a (by omega)) (om 10 (by omega))) (hAL.1.2.1.cg (oM 145 (by omega)) (fun a _ _ => om a (by omega))) (hAL.1.2.2.1.cg (fun a _ => om a (by omega))) hQ6 (hAL.2.2.2.1.cg (fun j _ => by rw [oM 153 (by omega)]) (om 18 (by omega))) (oM 142 (by omega)) (oM 143 (by omega)) (oM 146 (by omega)) (fun j _ => by rw [oM 153 (by omega)]) (fun a _ => om a (by omega)) (fun j _ _ => om0 j (by omega))
  have hSLo6 : SLo i M6 m1 M m := SLo.of (oM 149 (by omega)) (oM 150 (by omega)) (om 43 (by omega)) (om 44 (by omega)) (om 45 (by omega))
  have F6 : FLk i M6 M := ⟨fun x _ _ _ _ _ _ h _ _ => oM x h, fun j _ _ _ _ _ h _ => oM2 j h, fun j _ => by rw [oM 153 (by omega)], fun j _ => by rw [oM 151 (by omega)]⟩
  have F6m : FMj i m1 m := ⟨fun a _ => om a (by omega), fun j _ => ⟨by rw [om 46 (by omega)], by rw [om 47 (by omega)]⟩, fun j _ _ h3 _ _ _ _ _ => om0 j h3⟩
  obtain ⟨⟨a1, a2, a3⟩, L, sr, kt, b1, b2, b3, b4, b5, b6⟩ := id hAL6.1.1
  have hs1 : m1 19 i = nI s := by rw [om 19 (by omega)]; exact hs
  have hfr1 : m1 0 53 = nI fr := by rw [om0 53 (by omega)]; exact hfr
  have hF1 : M6 152 5 = nI fr := by rw [hQ6.2.1]; exact hfr1
  have eL := lentry_eq (fu := fu) (fr := fr) (M := M) (m := m1) hfu hi (hAL.2.1.1.cg rfl (fun a _ _ => om a (by omega)) (om0 37 (by omega)) (om0 38 (by omega))) hAL6.2.1.2 hs1 hs6 (by rw [← oM2 1 (by omega)]; exact a1) (by rw [← oM2 5 (by omega)]; exact hF1) (b3.cg (oM 147 (by omega)).symm (oM 148 (by omega)).symm (oM2 3 (by omega)).symm)
  have eX := entryFor_eq (fu := fu) (fr := fr) hfu hAL6.2.1.2 i3 hs1 hs6 a2 hfr1 b1
  have e6 : (6 : Int32) + nI i = nI (6 + i) := nI_add 6 i
  have hsi : M 146 (6 + i) = nI s := by rw [hAL.2.1.1.2.1 i hi]; exact hs
  have hTK1 : TKL M6 m1 tk p := hT.cg (fun j _ => by rw [oM 151 (by omega)]) (om 42 (by omega)) (om0 83 (by omega))
  rw [tkSplit, takes_split, e6, inb_nI (by omega) (by omega), grd_true, eL, bd_some, nm_d, show up m 0 55 0 = m1 from rfl, eX, bd_some, nI_clamp (by omega), hsi, show up M 152 13 0 = M6 from rfl]
  cases hk : lst (srvK m1 i nC s t fr L) L.length with
  | none =>
    rw [if_pos (show oI none < 0 by decide)]
    have hu := b4.2.1
    obtain ⟨P, r1, r2, r3, r4, r5⟩ := right_L (fu := fu) (g := u) hfu i3 hs6 b4 (by omega) (Nat.le_refl _)
    have hfn : fw sr s u u = none := by
      cases hf : fw sr s u u with
      | none => rfl
      | some w => have := fw_in hf; omega
    rw [hfn] at r5
    obtain ⟨N, n, t', g1, g2, g3⟩ := takeNone (M := M) (m := m) (a := lw sr s u) (P := P) (q := m1) hfu hi hit hs1 hs6 h83 hp3 h78 ho hbit (by omega) (hAL6.l (fun x hx => r2 x (by omega))) (SLo.trans (SLo.of (r2 149 (by omega)) (r2 150 (by omega)) rfl rfl rfl) hSLo6) r4 r5 lw_le (b5 s hs6) (FLk.trans ⟨fun x _ _ _ _ _ h _ _ _ => r2 x h, fun j _ _ _ _ _ _ _ => by rw [r2 152 (by omega)], fun j _ => by rw [r2 153 (by omega)], fun j hj => r3 j (by omega) (by omega)⟩ F6) F6m (by rw [e3_cg (r2 3 (by omega)), e3_cg (oM 3 (by omega))]; exact he3) (hTK1.cg (fun j _ => r3 _ (by omega) (by omega)) rfl rfl) (fun j hj hjt => by
      obtain ⟨A, hA⟩ := htk j hj hjt
      exact ⟨A, hA.cg (by rw [r2 149 (by omega), oM 149 (by omega)]) (by rw [r2 150 (by omega), oM 150 (by omega)]) (om 43 (by omega)) (om 44 (by omega)) (om 45 (by omega))⟩)
    refine ⟨N, n, t', ?_, ?_, g3⟩
    · unfold tkN
      rw [b4.1, r1, bd_some]
      exact g1
    · simp only [show (oI none = -1) = True from propext ⟨fun _ => trivial, fun _ => rfl⟩, if_true]
      exact g2
  | some k =>
    have hkl := lst_lt hk
    obtain ⟨E, hE⟩ := gl_ex (L := L) (i := k) hkl.1
    have hl6 := b3.2.1
    have hsrv : srv m1 i nC s t fr E = true := by have := hkl.2; simp only [srvK, hE] at this; exact this
    have hEs : E.1 = s := by
      simp only [srv, Bool.and_eq_true, decide_eq_true_eq] at hsrv
      exact hsrv.1.1
    rw [if_neg (show ¬ oI (some k) < 0 from nI_pos (by omega))]
    obtain ⟨N, n, g1, g2, g3⟩ := takeEnt (M := M) (m := m) (P := M6) (q := m1) hfu hi hs6 hEs h83 hp3 h78 ho hbit (by omega) hAL6 hSLo6 F6 F6m (show k < 6 by omega) (b3.2.2 k E hE) (b1.2.2 k E hE) b4
    refine ⟨N, n, t, g1, ?_, g3⟩
    rw [mlink_eq (fu := fu) hfu hAL6.2.1.2 hTK1 i3, bd_some, if_neg (show ¬ oI (some k) = -1 from nI_nm1 (by omega))]
    exact g2
end Take3L
