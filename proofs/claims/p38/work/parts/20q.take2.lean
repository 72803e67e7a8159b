section Take2L
variable {fu t u i j s o c p g a b nS nL nC nO l : Nat} {M m N n P q : Mem} {A : List Row} {L : List Ent} {E : Ent} {RR : Nat → List Row} {tk : Nat → Bool} {opn : Bool} {h : Nat} {sr kt : Nat → Nat}
theorem fbit : ∀ k : Fin 8, ∀ j : Fin 3, ((nI k >>> (nI j &&& 31)) &&& 1 = 0) = ¬ ((nI k >>> (nI j &&& nI 31)) &&& nI 1 = nI 1) := by decide +kernel
theorem FMj.key (h1 : ∀ a, a ≠ 0 → a ≠ 48 → n a = m a) (h2 : ∀ j, j ≠ 63 → n 0 j = m 0 j) : FMj i n m := ⟨fun a ha => h1 a (by omega) (by omega), fun j _ => ⟨by rw [h1 46 (by omega) (by omega)], by rw [h1 47 (by omega) (by omega)]⟩, fun j _ _ _ _ h5 _ _ _ => h2 j h5⟩
theorem FLk.keys (h1 : ∀ a, a ≠ 157 → N a = M a) : FLk i N M := ⟨fun a _ _ _ _ _ _ _ _ h => h1 a h, fun j _ _ _ _ _ _ _ => by rw [h1 152 (by omega)], fun j _ => by rw [h1 153 (by omega)], fun j _ => by rw [h1 151 (by omega)]⟩
/-- no entry serves -/
theorem takeNone (hfu : 5000 ≤ fu) (hi : i < nS) (hit : tk i = false) (hs : q 19 i = nI s) (hs6 : s < 6) (h83 : m 0 83 = nI p) (hp3 : p < 3) (h78 : m 0 78 = nI o) (ho : o < 8) (hbit : o.testBit i = false) (ht : t + 480 < 2 ^ 27) (hAL : AL P q t u nS nL nC nO RR) (hSLo : SLo i P q M m) (q3 : P 151 (4 * i + 2) = nI a) (q4 : P 151 (4 * i + 3) = nI u) (ha : a ≤ u) (q5 : q 5 s = nI a) (hFL : FLk i P M) (hFM : FMj i q m) (he3 : e3 P = true) (hT : TKL P q tk p) (htk : ∀ j, j < 3 → tk j = true → ∃ A, SL P q j A) :
    ∃ N n t', bd (f_L_linkOf fu (nI i) P) (fun r_11 => bd (f_L_guess fu (nI i) P) (fun r_15 => tkL fu (nI i) (nI s / 2) r_11 ((f_L_fee (nI s / 2)) + ((f_L_freight (nI s / 2)) * r_15)) P)) = some N ∧ bd (f_X11_linkOf fu (nI i) q) (fun r_5 => (if r_5 = (-1) then mk83 fu (nI i) q else bm (f_X11_canBind fu (nI i) r_5 q) (fun r_35 M_36 => (if r_35 = 0 then mk83 fu (nI i) M_36 else grd (inb r_5 3) (nm ((if (M_36 20 r_5.toNatClampNeg) = (nI i) then (M_36 21 r_5.toNatClampNeg) else (M_36 23 r_5.toNatClampNeg)) : Int32) (fun v_40 => bm (f_X11_binds fu (nI i) v_40 M_36) (fun r_42 M_43 => mk101 (nI i) r_42 M_43))))))) = some n ∧ TKD N n M m t t' u i p o nS nL nC nO RR := by
  have hD := hAL.2.1.1
  have hG := hAL.2.1.2
  have hS3 := hG.1.2
  have hL3 := hG.2.1.2
  have i3 : i < 3 := by omega
  have hs2 : s / 2 < 3 := by omega
  obtain ⟨z0, z, z12, hz⟩ := hAL.2.2.2.1 s hs6
  have egl := lguess_eq (fu := fu) hfu hi hD hG hs hs6 z0 hz (by omega)
  have ell := llink_eq (fu := fu) hfu hD hG hT i3
  have elx := mlink_eq (fu := fu) hfu hG hT i3
  rw [ell, elx, bd_some, bd_some, egl, bd_some]
  obtain ⟨NS, nS', tS, S1, S2, S3⟩ := takeScan (M := M) (m := m) hfu hi hs hs6 h83 hp3 h78 ho hbit (show t + 120 < 2 ^ 27 by omega) hAL hSLo q3 q4 ha q5 hFL hFM
  cases hf : fro (lkd q tk i) 0 nL with
  | none =>
    refine ⟨NS, nS', tS, ?_, ?_, S3⟩
    · unfold tkL
      rw [if_pos (show oI none < 0 by decide)]
      exact S1
    · rw [if_pos (show oI none = -1 by decide)]
      exact S2
  | some l =>
    have hlt := fro_lt hf
    obtain ⟨cap, _, hcap⟩ := hAL.1.2.2.1.2.2.1 (s / 2) hs2
    have hSt := mcs_St hs6 hG hs (hAL.2.2.1 s hs6).2.1 hcap
    obtain ⟨ce, co, cl, ot, oc, l3, ot3, otk, hLF⟩ := linkFacts (tk := tk) hSt.1 hG i3 hf
    obtain ⟨_, _, _, _, _, _, _, cl4, oc4, lf1, lf2, lf3⟩ := id hLF
    obtain ⟨so, hso6, hso⟩ := hG.src ot3
    obtain ⟨f0, k, k8, fk⟩ := hAL.2.2.2.2 so hso6
    let b := decide ((q 17 so >>> (nI (s / 2) &&& nI 31)) &&& nI 1 = nI 1)
    have hb : ((q 17 so >>> (nI (s / 2) &&& nI 31)) &&& nI 1 = nI 1) ↔ b = true := by simp [b]
    have ecan := canBind_eq (fu := fu) i3 l3 hs hs6 hso6 (show ot < 3 by omega) hLF hso hb
    have eoI : oI (some l) = nI l := rfl
    have n0 : ¬ nI l < (0 : Int32) := nI_pos (by omega)
    have nm1 : ¬ nI l = -1 := nI_nm1 (by omega)
    have e9 : (9 : Int32) + 4 * nI l = nI (9 + 4 * l) := by rw [show (4 : Int32) = nI 4 from rfl, show (9 : Int32) = nI 9 from rfl, pk_mul, nI_add]
    have e10 : (10 : Int32) + 4 * nI l = nI (10 + 4 * l) := by rw [show (4 : Int32) = nI 4 from rfl, show (10 : Int32) = nI 10 from rfl, pk_mul, nI_add]
    have e11 : (11 : Int32) + 4 * nI l = nI (11 + 4 * l) := by rw [show (4 : Int32) = nI 4 from rfl, show (11 : Int32) = nI 11 from rfl, pk_mul, nI_add]
    have e12 : (12 : Int32) + 4 * nI l = nI (12 + 4 * l) := by rw [show (4 : Int32) = nI 4 from rfl, show (12 : Int32) = nI 12 from rfl, pk_mul, nI_add]
    obtain ⟨d1, d2, d3, d4⟩ := hD.2.2.1 l (by omega)
    let most := f_L_fee (nI s / 2) + f_L_freight (nI s / 2) * nI (gss q i nC z)
    have hL : tkL fu (nI i) (nI s / 2) (oI (some l)) most P = tkK fu (nI i) (nI s / 2) (nI cl) (nI ot) (nI oc) most P := by
      unfold tkL
      rw [eoI, if_neg n0, e9, inb_nI (by omega) (by omega), grd_true, nI_clamp (by omega), d1, e10, e11, e12, nI_clamp (show 10 + 4 * l < 2 ^ 31 by omega), nI_clamp (show 11 + 4 * l < 2 ^ 31 by omega), nI_clamp (show 12 + 4 * l < 2 ^ 31 by omega), d2, d3, d4, inb_nI (show 10 + 4 * l < 43 by omega) (by omega), inb_nI (show 11 + 4 * l < 43 by omega) (by omega), inb_nI (show 12 + 4 * l < 43 by omega) (by omega), grd_true, grd_true, grd_true]
      by_cases hz : q 20 l = nI i
      · rw [if_pos hz] at lf1 lf2 lf3 ⊢
        rw [lf1, lf2, lf3]
      · rw [if_neg hz] at lf1 lf2 lf3 ⊢
        rw [lf1, lf2, lf3]
        rfl
    rw [eoI, if_neg nm1, ecan]
    rw [eoI] at hL
    show ∃ N n t', tkL fu (nI i) (nI s / 2) (nI l) most P = some N ∧ _ ∧ _
    rw [hL]
    have e6 : (6 : Int32) + nI ot = nI (6 + ot) := nI_add 6 ot
    have e8 : (8 : Int32) + nI so = nI (8 + so) := nI_add 8 so
    have eD : nI s / 2 = nI (s / 2) := pk_div (d := 2) (by omega) (by omega) (by omega)
    have hdone := ldone (s := s) (c := cl) (k := 0) hs6 cl4 (by omega)
    rw [sto hs6] at hdone
    have hfb := fbit ⟨k, k8⟩ ⟨s / 2, hs2⟩
    dsimp only at hfb
    have hsot : P 146 (6 + ot) = nI so := by rw [hD.2.1 ot ot3]; exact hso
    unfold tkK
    rw [e6, inb_nI (by omega) (by omega), grd_true, nI_clamp (by omega), hsot, e8, inb_nI (by omega) (by omega), grd_true, nI_clamp (by omega), f0, fk, eD]
    rw [eD] at hdone
    have hd1 : (f_L_done (nI (s / 2)) (nI cl) 0 = 0) ↔ (f_X10_canDo (nI (s / 2)) (nI cl) (nI 0) = nI 0) := iff_of_eq hdone
    have hfb1 : ((nI k >>> (nI (s / 2) &&& 31)) &&& 1 = 0) ↔ ¬ ((nI k >>> (nI (s / 2) &&& nI 31)) &&& nI 1 = nI 1) := iff_of_eq hfb
    rw [fk] at hb
    by_cases hcd : f_X10_canDo (nI (s / 2)) (nI cl) (nI 0) = nI 0
    · refine ⟨NS, nS', tS, ?_, ?_, S3⟩
      · rw [if_pos (hd1.mpr hcd)]; exact S1
      · rw [if_pos hcd, bm_some, if_pos rfl]; exact S2
    · rw [if_neg (fun z => hcd (hd1.mp z)), if_neg hcd]
      by_cases hbf : b = true
      · have h1 := hb.mpr hbf
        refine ⟨NS, nS', tS, ?_, ?_, S3⟩
        · rw [if_neg (fun z => (hfb1.mp z) h1)]; exact S1
        · rw [if_neg (by rw [hbf]; decide), bm_some, if_pos rfl]; exact S2
      · have h1 : ¬ (nI k >>> (nI (s / 2) &&& nI 31) &&& nI 1 = nI 1) := fun z => hbf (hb.mp z)
        have hbf' : b = false := by simpa using hbf
        rw [if_pos (hfb1.mpr h1), if_pos hbf', grd_t he3]
        -- the keys
        obtain ⟨Ao, hAo⟩ := htk ot (by omega) otk
        let P0 := row P 157 (fun _ => 0)
        have oP0 : ∀ x, x ≠ 157 → P0 x = P x := fun x hx => row_n hx
        have hAL0 : AL P0 q t u nS nL nC nO RR := hAL.l (fun x hx => oP0 x (by omega))
        obtain ⟨P1, q1, K, x1, x2, K10, KDn, x63, x157, y1, y2, y3⟩ := keys_L (k458 := fun (x23_47 : Int32) (M_48 : Mem) => (if most ≤ ((((x23_47 + 3) / 4) * (f_L_fee (nI (s / 2)))) + (x23_47 * (f_L_freight (nI (s / 2))))) then grd (e3 M_48) (tkS fu (nI i) M_48) else bd (f_L_bind fu x23_47 (nI i) (nI cl) most M_48) (fun M_54 => grd (e3 M_54) (some M_54)))) hfu ot3 oc4 hAL0.2.1.1 hG (hAo.cg (oP0 149 (by omega)) (oP0 150 (by omega)) rfl rfl rfl)
        have hAL1 : AL P1 q1 t u nS nL nC nO RR := (hAL0.l (fun x hx => y1 x (by omega))).md (fun x z1 z2 => y2 x (by omega) (by omega)) (fun j hj => y3 j (by omega))
        have F1 : FLk i P1 M := (FLk.keys y1).trans ((FLk.keys oP0).trans hFL)
        have F1m : FMj i q1 m := (FMj.key y2 y3).trans hFM
        have o1 : SLo i P1 q1 M m := SLo.trans (SLo.of (y1 149 (by omega)) (y1 150 (by omega)) (y2 43 (by omega) (by omega)) (y2 44 (by omega) (by omega)) (y2 45 (by omega) (by omega))) (SLo.trans (SLo.of (oP0 149 (by omega)) (oP0 150 (by omega)) rfl rfl rfl) hSLo)
        have r151 : P1 151 = P 151 := by rw [y1 151 (by omega), oP0 151 (by omega)]
        have r5 : q1 5 s = nI a := by rw [y2 5 (by omega) (by omega)]; exact q5
        have r19 : q1 19 i = nI s := by rw [y2 19 (by omega) (by omega)]; exact hs
        have r18 : q1 18 s = nI z := by rw [y2 18 (by omega) (by omega)]; exact hz
        have r3 : e3 P1 = true := by rw [e3_cg (y1 3 (by omega)), e3_cg (oP0 3 (by omega))]; exact he3
        have hDS : DS q1 q := ⟨fun x z1 z2 => y2 x (by omega) (by omega), fun j z1 z2 => y3 j (by omega)⟩
        have hgs : gss q1 i nC z = gss q i nC z := by simp only [gss, hDS.cs]
        have eg1 := guess_eq (fu := fu) hfu hAL1.2.1.2 i3 r19 hs6 r18 (by omega)
        rw [hgs] at eg1
        obtain ⟨_, _, _, hf15, hf16⟩ := hAL1.1.2.2.1
        have hfee := fee_L hs2
        rw [x1, x2, bd_some, inb_nI hs2 (by omega), grd_true, eg1, bd_some, hf15, hf16, x63, hfee.1, hfee.2]
        have hmost : most = fee (s / 2) + nI (gss q i nC z) * freight (s / 2) := by
          show f_L_fee (nI s / 2) + f_L_freight (nI s / 2) * nI (gss q i nC z) = _
          rw [eD, hfee.1, hfee.2, Int32.mul_comm]
        rw [← hmost]
        by_cases hle : most ≤ ((nI K + 3) / 4 * fee (s / 2) + nI K * freight (s / 2))
        · obtain ⟨N, n, t', g1, g2, g3⟩ := takeScan (M := M) (m := m) hfu hi r19 hs6 h83 hp3 h78 ho hbit (show t + 120 < 2 ^ 27 by omega) hAL1 o1 (by rw [r151]; exact q3) (by rw [r151]; exact q4) ha r5 F1 F1m
          refine ⟨N, n, t', ?_, ?_, g3⟩
          · rw [if_pos hle, grd_t r3]; exact g1
          · rw [if_pos hle, bm_some, if_pos rfl]; exact g2
        · rw [if_neg hle, if_neg hle, bm_some, if_neg (by decide), inb_nI l3 (by omega), grd_true, nm_d, nI_clamp (by omega), y2 20 (by omega) (by omega), y2 21 (by omega) (by omega), y2 23 (by omega) (by omega), lf1]
          have e41 : (4 : Int32) * nI i + 1 = nI (4 * i + 1) := by rw [show (4 : Int32) = nI 4 from rfl, pk_mul, nI_1]
          have e4 : (4 : Int32) * nI i = nI (4 * i) := pk_mul 4 i
          let P2 := up (up (up P1 150 i 0) 151 (4 * i) 1) 151 (4 * i + 1) 0
          let q2 := up q1 43 i 0
          have oP2 : ∀ x, x ≠ 150 → x ≠ 151 → P2 x = P1 x := fun x z1 z2 => by show up (up (up P1 _ _ _) _ _ _) _ _ _ x = _; rw [up_n z2, up_n z2, up_n z1]
          have oq2 : ∀ x, x ≠ 43 → q2 x = q1 x := fun x z => up_n z
          have P2_150 : P2 150 = upd (P1 150) i 0 := by show up (up (up P1 _ _ _) _ _ _) _ _ _ 150 = _; rw [up_n (by omega), up_n (by omega), up_r]
          have P2_151 : ∀ j, j ≠ 4 * i → j ≠ 4 * i + 1 → P2 151 j = P1 151 j := fun j z1 z2 => by show up (up (up P1 _ _ _) _ _ _) _ _ _ 151 j = _; rw [up_m z2, up_m z1, up_n (by omega)]
          have hAL2 : AL P2 q2 t u nS nL nC nO RR := (hAL1.l (fun x hx => oP2 x (by omega) (by omega))).md (fun x z1 z2 => oq2 x (by omega)) (fun j hj => by rw [oq2 0 (by omega)])
          have sl2 : SL P2 q2 i [] := ⟨⟨by rw [P2_150]; simp [upd]; rfl, by simp, fun k r hr => by simp at hr⟩, ⟨by show up q1 43 i 0 43 i = _; rw [up_s]; rfl, by simp, fun k r hr => by simp at hr⟩, fun r hr => by simp at hr⟩
          have o2 : SLo i P2 q2 M m := SLo.trans (fun i' B z1 z2 z3 => ⟨z3.1.cg (by rw [P2_150]; simp [upd, z2]) (fun x _ => by rw [oP2 149 (by omega) (by omega)]), z3.2.1.cg (by show up q1 43 i 0 43 i' = _; rw [up_m z2]) (oq2 44 (by omega)) (oq2 45 (by omega)), z3.2.2⟩) o1
          have F2 : FLk i P2 M := FLk.trans ⟨fun x _ _ _ _ z5 z6 _ _ _ => oP2 x z5 z6, fun j _ _ _ _ _ _ _ => by rw [oP2 152 (by omega) (by omega)], fun j _ => by rw [oP2 153 (by omega) (by omega)], fun j hj => P2_151 j (by omega) (by omega)⟩ F1
          have F2m : FMj i q2 m := FMj.trans ⟨fun x hx => oq2 x (by omega), fun j _ => ⟨by rw [oq2 46 (by omega)], by rw [oq2 47 (by omega)]⟩, fun j _ _ _ _ _ _ _ _ => by rw [oq2 0 (by omega)]⟩ F1m
          obtain ⟨N, n, A', opn, t', h, ⟨b1, b2⟩, b3, b4, b5, b6, b7, b8, b9, b10, b11, b12⟩ := bindL27 (most := most) (kf := q2 48) (K := K) (c := cl) hfu hi cl4 hs6 K10 (by rw [oq2 48 (by omega)]; exact KDn) 3 0 fu fu P2 q2 [] t false (by omega) (by omega) (by omega) hAL2 sl2 (by simp) (fun x hx => by rw [oP2 157 (by omega) (by omega), oq2 48 (by omega)]; exact x157 x hx) rfl (by rw [oq2 0 (by omega)]; exact x63) (by rw [oq2 19 (by omega)]; exact r19) (by show up (up (up P1 _ _ _) _ _ _) _ _ _ 151 (4 * i) = _; rw [up_m (by omega), up_s]; rfl) (by show up (up (up P1 _ _ _) _ _ _) _ _ _ 151 (4 * i + 1) = _; rw [up_s]; rfl) (by omega) (by omega)
          obtain ⟨n', g1, g2⟩ := takeNow (M := M) (N := N) (q := n) (A := A') (a := a) (h := h) (opn := opn) (t' := t') (t := t) i3 (by rw [b6.1 19 (by omega), oq2 19 (by omega)]; exact r19) hs6 h83 hp3 h78 ho hbit (by omega) ⟨b1, by omega⟩ b3 b4 (b7.trans o2) b11 b12 (by rw [b5.2.2.2 _ (by omega) (by omega), P2_151 _ (by omega) (by omega), r151]; exact q3) (by rw [b5.2.2.2 _ (by omega) (by omega), P2_151 _ (by omega) (by omega), r151]; exact q4) ha (by rw [b6.1 5 (by omega), oq2 5 (by omega)]; exact r5) (b5.fk.trans F2) (b6.fj.trans F2m)
          refine ⟨N, n', t', ?_, ?_, g2⟩
          · have hbind : f_L_bind fu (nI K) (nI i) (nI cl) most P1 = some N := by
              rw [← b9]
              unfold f_L_bind
              refine grd_to (inb_nI i3 (by omega)) ?_
              refine nm_to (w := up P1 150 i 0) (by rw [nI_clamp (by omega)]) ?_
              refine grd_to (by rw [e4]; exact inb_nI (by omega) (by omega)) ?_
              refine nm_to (w := up (up P1 150 i 0) 151 (4 * i) 1) (by rw [e4, nI_clamp (by omega)]) ?_
              refine grd_to (by rw [e41]; exact inb_nI (by omega) (by omega)) ?_
              refine nm_to (w := P2) (by rw [e41, nI_clamp (by omega)]) ?_
              rfl
            rw [hbind, bd_some, grd_t (by rw [e3_cg (b5.1 3 (by omega) (by omega) (by omega) (by omega) (by omega) (by omega) (by omega) (by omega)), e3_cg (oP2 3 (by omega) (by omega))]; exact r3)]
          · have hbinds : f_X11_binds fu (nI i) (nI cl) q1 = some (nI (h + if opn = true then 10 else 0), n) := by
              rw [← b10]
              unfold f_X11_binds
              refine grd_to (inb_nI i3 (by omega)) ?_
              refine nm_to (w := nI (s / 2)) (by rw [nI_clamp (by omega), r19, st_store, sto hs6]) ?_
              refine grd_to (inb_nI hs2 (by omega)) ?_
              rw [eg1, bd_some]
              refine nm_to (w := most) (by rw [nI_clamp (by omega), hf15, hf16, hmost]) ?_
              refine nm_to (w := q2) (by rw [nI_clamp (by omega)]) ?_
              rfl
            rw [hbinds, bm_some]
            exact g1
end Take2L
