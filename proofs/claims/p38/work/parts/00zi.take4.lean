/-! ===== a seat is taken ===== -/
section Take4
variable {fu nS nL nC nO i j s t u e p c fr t0 dl c0 sc o : Nat} {M m N n : Mem} {RR : Nat → List Row} {tk : Nat → Bool} {sn un : Nat → Nat}
theorem narrow_eq {a b : Int32} : f_X1_narrow fu a b M = some (up (up M 120 9 (if M 120 9 < a then a else M 120 9)) 120 10 (if b < M 120 10 then b else M 120 10)) := by
  simp (disch := omega) only [f_X1_narrow, nm_d, up_m]
theorem maxI {a b : Nat} (ha : a < 2 ^ 31) (hb : b < 2 ^ 31) : (if nI a < nI b then nI b else nI a) = nI (max a b) := by
  have e : (nI a < nI b) = (a < b) := propext (nI_ltI ha hb)
  simp only [e]
  split
  · congr 1; omega
  · congr 1; omega
theorem minI {a b : Nat} (ha : a < 2 ^ 31) (hb : b < 2 ^ 31) : (if nI b < nI a then nI b else nI a) = nI (min a b) := by
  have e : (nI b < nI a) = (b < a) := propext (nI_ltI hb ha)
  simp only [e]
  split
  · congr 1; omega
  · congr 1; omega
theorem take4 (hfu : 5000 ≤ fu) (h : SA M m t u nS nL nC nO RR t0 dl fr c0 sc tk p o sn un) (hi : i < nS) (hit : tk i = false) (ht : t + 480 < 2 ^ 29) (hl : t0 + dl < 2 ^ 29) (hc : c0 + sc + 200 < 2 ^ 29) (hu : u < 2 ^ 29) : ∃ N n t' sc' o' sn' un', f_X1_takeSeat fu (nI i) M = some N ∧ f_X11_takes fu (nI i) m = some n ∧ t ≤ t' ∧ t' ≤ t + 480 ∧ sc' ≤ 156 ∧ SA N n t' u nS nL nC nO RR t0 dl fr (c0 + sc) sc' (setB tk i) (p + 1) o' sn' un' := by
  obtain ⟨⟨y, hAB0⟩, h7, ⟨h9, h10⟩, hX0⟩ := h
  have eyy : up (up m 0 55 y) 0 55 0 = up m 0 55 0 := by rw [up_row, up_r, upd_upd, up_row (M := m), row_row, up_row]
  have hS3 := hAB0.2.2.1.1.2
  have hi3 : i < 3 := by omega
  have hAB : AB M (up m 0 55 0) t u nS nL nC nO RR t0 dl (c0 + sc) 0 := by
    rw [← eyy]
    obtain ⟨a1, a2, a3, a4, a5, a6, ⟨q1, q2, q3, q4, q5, q6, q7, q8⟩, a8⟩ := hAB0
    have hD : DS (up (up m 0 55 y) 0 55 0) (up m 0 55 y) := ⟨fun a _ _ => by rw [up_n (show a ≠ 0 by omega)], fun j _ _ => by rw [up_m (show j ≠ 55 by omega)]⟩
    refine ⟨a1.of (a1.1.cg (fun _ _ _ _ => rfl) (by rw [up_m (by omega)]) (by rw [up_m (by omega)]) (by rw [up_m (by omega)]) (fun a _ _ => by rw [up_n (by omega)]) (fun a _ _ => by rw [up_n (by omega)])) (fun _ _ _ _ => rfl) (fun a _ _ => by rw [up_n (by omega)]) (by rw [up_m (by omega)]), a2.cg (fun _ _ _ => rfl) hD, a3.cg hD, a4.cg rfl (by rw [up_n (by omega)]), a5.cg rfl (by rw [up_n (by omega)]), by rw [up_n (by omega)]; exact a6, ⟨q1, by rw [up_m (by omega)]; exact q2, by rw [up_m (by omega)]; exact q3, q4, by rw [up_m (by omega)]; exact q5, up_s, by rw [up_m (by omega)]; exact q7, by rw [up_m (by omega)]; exact q8⟩, a8⟩
  have hX : SX M (up m 0 55 0) nS nC fr tk p o i u sn un := by
    obtain ⟨x1, x2, x3, x4, x5, x6, x7, x8, x9⟩ := hX0
    have hX1 : SX M m nS nC fr tk p o i u sn un := ⟨x1, x2, x3, x4, x5, fun j z1 z2 z3 => x6 j z1 (by omega) z3, fun j z1 z2 z3 => x7 j z1 (by omega) z3, x8, x9⟩
    exact hX1.cg rfl rfl (fun _ _ _ _ h => h) rfl rfl (up_n (by omega)) hit (fun j _ => by rw [up_n (by omega)]) (fun j _ => by rw [up_n (by omega)]) (up_n (by omega)) (by rw [up_m (by omega)]) (by rw [up_m (by omega)]) (by rw [up_m (by omega)]) (fun i' A' y1 y2 y3 => y3.cg (by rw [up_n (by omega)]) (up_n (by omega)) (up_n (by omega))) ⟨fun a _ _ => up_n (by omega), fun j _ _ => by rw [up_m (by omega)]⟩ ⟨fun _ _ _ => rfl, fun a _ _ => up_n (by omega), by rw [up_m (by omega)], by rw [up_m (by omega)]⟩
  have hA0 : RC M (96 + 3 * i) [] := hX0.2.2.2.2.2.1 i hi3 (by omega) hit
  obtain ⟨s, hs6, hs⟩ := hAB.2.2.1.src hi
  have hle := mn3_le (tk := tk) (un := un) (u := u) (fun j hj hjt => (hX.2.2.2.2.2.2.2.2.1 j hj hjt).2.2.2)
  have hme := mx3_le (tk := tk) (sn := sn) (u := u) (fun j hj hjt => (hX.2.2.2.2.2.2.2.2.1 j hj hjt).2.2.1)
  obtain ⟨L, ⟨id, hid⟩, hEM, hEG⟩ := hAB.1.1.L
  have hL6 := hid.2.2.1
  have e1 := serving_eq (fr := fr) (fu := fu) hfu hAB.2.1 hAB.2.2.1 hi3 hs hs6 hAB.1.1.1.1 hid
  have e2 := entryFor_eq (fr := fr) (fu := fu) hfu hAB.2.2.1 hi3 hs hs6 hAB.1.1.1.2.1 hX.2.2.2.1.2 hEM
  have hsrc : M 81 i = nI s := by rw [hAB.2.1.2.1.1]; exact hs
  have ci : (nI i).toNatClampNeg = i := nI_clamp (by omega)
  have cs : (nI s).toNatClampNeg = s := nI_clamp (by omega)
  rw [take_split, takes_split, inb_nI hi3 (by omega), grd_true, nm_d, nm_d, ci, hsrc, hX.2.2.2.1.1, e1, bd_some, e2, bd_some]
  cases hk : lst (srvK (up m 0 55 0) i nC s t fr L) L.length with
  | none =>
    obtain ⟨w, w1, w2⟩ := (hAB.1.2.2.1 s hs6).2.2.2.2
    have h60 : M 60 s = nI w := by rw [hAB.1.2.2.2.2.1]; exact w2
    have on : oI (none : Option Nat) = -1 := rfl
    rw [Option.map_none, om_none, on, inb_nI hs6 (by omega), grd_true, cs, narrow_eq, bd_some, h60, h9, h10, maxI (by omega) (by omega), minI (by omega) (by omega)]
    have hAB' : AB (up (up M 120 9 (nI (max (mx3 tk sn) w))) 120 10 (nI (min (mn3 tk un u) (mn3 tk un u)))) (up m 0 55 0) t u nS nL nC nO RR t0 dl (c0 + sc) 0 := hAB.cg (fun a ha => by rw [up_n (by omega), up_n (by omega)]) (fun _ _ _ => rfl) (by rw [up_m (by omega), up_m (by omega)]) ⟨by rw [up_n (by omega), up_n (by omega)], by rw [up_n (by omega), up_n (by omega)], by rw [up_n (by omega), up_n (by omega)]⟩ (fun _ _ => rfl)
    have hX' : SX (up (up M 120 9 (nI (max (mx3 tk sn) w))) 120 10 (nI (min (mn3 tk un u) (mn3 tk un u)))) (up m 0 55 0) nS nC fr tk p o i u sn un := hX.cg (by rw [up_n (by omega), up_n (by omega)]) (by rw [up_n (by omega), up_n (by omega)]) (fun j hj _ R hR => hR.cg (by rw [up_n (by omega), up_n (by omega)]) (by rw [up_n (by omega), up_n (by omega)]) (by rw [up_n (by omega), up_n (by omega)])) (by rw [up_n (by omega), up_n (by omega)]) (by rw [up_m (by omega), up_m (by omega)]) rfl hit (fun _ _ => rfl) (fun _ _ => rfl) rfl rfl rfl rfl .rfl .rfl ⟨fun a _ _ => by rw [up_n (by omega), up_n (by omega)], fun _ _ _ => rfl, rfl, rfl⟩
    have := noEntry (fu := fu) hfu hAB' hX' hi hit hs hs6 w2 w1 ht hl (by omega) (by rw [up_n (by omega), up_n (by omega)]; exact h7) (by rw [up_m (by omega), up_s]) (by rw [up_s, Nat.min_self]) (hA0.cg (by rw [up_n (by omega), up_n (by omega)]) (by rw [up_n (by omega), up_n (by omega)]) (by rw [up_n (by omega), up_n (by omega)]))
    simp only [↓reduceIte]
    exact this
  | some k =>
    obtain ⟨k1, k2⟩ := lst_lt hk
    obtain ⟨E, hE⟩ := gl_ex (L := L) (i := k) k1
    have hE1 := hid.2.2.2 k E hE
    have hEm := hEM.2.2 k E hE
    have hEg := hEG E (List.mem_of_getElem? hE)
    have hkid := hid.1.1 k (by omega)
    have hkb := kid_b hkid
    obtain ⟨⟨f, f1, f2⟩, ⟨b, b1, b2⟩, hto, _, hokE⟩ := hEg
    obtain ⟨⟨z1, z2, z3, z4, z5, z6, z7⟩, zR, _⟩ := hE1
    -- until when
    obtain ⟨g, g1, g2, g3⟩ : ∃ g, g ≤ u ∧ (if nv E.2.2.2.1 < nI (mn3 tk un u) then nv E.2.2.2.1 else nI (mn3 tk un u)) = nI (min (mn3 tk un u) g) ∧ (if nn E.2.2.2.1 = -1 then nI u else nn E.2.2.2.1) = nI g := by
      cases hq : E.2.2.2.1 with
      | none =>
        refine ⟨u, Nat.le_refl _, ?_, ?_⟩
        · have : ¬ nv (none : Option Int32) < nI (mn3 tk un u) := by
            show ¬ nI 2147483647 < nI (mn3 tk un u)
            rw [nI_ltI (by omega) (by omega)]
            omega
          rw [if_neg this]
          congr 1
          omega
        · rw [if_pos (show nn (none : Option Int32) = -1 from rfl)]
      | some d =>
        obtain ⟨x, x1, x2⟩ := hto d hq
        refine ⟨x, x1, ?_, ?_⟩
        · rw [x2]
          exact minI (by omega) (by omega)
        · rw [if_neg (show ¬ nn (some d) = -1 from by rw [x2]; exact i_nm1 (by omega))]
          exact x2
    have il : ¬ oI (some k) = -1 := i_nm1 (by omega)
    have hne : id k + 1 + 2 < 96 + 3 * i ∨ 96 + 3 * i + 2 < id k + 1 := Or.inl (by omega)
    obtain ⟨n2, s1, s2, s3, s4, s5, s6⟩ := serves_eq (fu := fu) hfu (show k < 6 by omega) hi3 hEm
    have hu7 : (up m 0 55 0) 0 7 = nI u := hAB.1.1.1.2.2.2
    rw [hu7, g3] at s4
    rw [b2] at s3
    rw [linkOf_eq hfu hAB.2.2.1 hX.1 hi3, bd_some, if_neg il, Option.map_some, om_some, kid_kb hkid, grd_true, nm_d, show 95 + 1 + 3 * i = 96 + 3 * i by omega, copy_eq (Or.inr (by omega)), bd_some]
    have rR := copy_RC (a := 96 + 3 * i) zR
    generalize hP : row (row (up M (96 + 3 * i) 2 (M (id k + 1) 2)) (96 + 3 * i + 1) (va_cpy (M (id k + 1 + 1)) (M (96 + 3 * i + 1)) 0 0 12)) (96 + 3 * i + 2) (va_cpy (M (id k + 1 + 2)) (M (96 + 3 * i + 2)) 0 0 48) = P at rR ⊢
    have fP : ∀ a, a ≠ 96 + 3 * i → a ≠ 96 + 3 * i + 1 → a ≠ 96 + 3 * i + 2 → P a = M a := fun a h1 h2 h3 => by rw [← hP, row_n h3, row_n h2, up_n h1]
    have ok : oI (some k) = nI k := rfl
    rw [narrow_eq, bd_some, fP (id k) (by omega) (by omega) (by omega), fP 120 (by omega) (by omega) (by omega), z5, z6, b2, h9, h10, maxI (by omega) (by omega), g2, ok, s1, bd_some]
    have hAB' : AB (up (up P 120 9 (nI (max (mx3 tk sn) b))) 120 10 (nI (min (mn3 tk un u) g))) n2 t u nS nL nC nO RR t0 dl (c0 + sc) 0 := hAB.cg (fun a ha => by rw [up_n (by omega), up_n (by omega), fP a (by omega) (by omega) (by omega)]) (fun a h1 h2 => s5 a (by omega) (by omega) (by omega) (by omega) (by omega)) (by rw [up_m (by omega), up_m (by omega), fP 120 (by omega) (by omega) (by omega)]) ⟨by rw [up_n (by omega), up_n (by omega), fP 90 (by omega) (by omega) (by omega)], by rw [up_n (by omega), up_n (by omega), fP 90 (by omega) (by omega) (by omega)], by rw [up_n (by omega), up_n (by omega), fP 90 (by omega) (by omega) (by omega)]⟩ (fun j _ => by rw [s5 0 (by omega) (by omega) (by omega) (by omega) (by omega)])
    have hX' : SX (up (up P 120 9 (nI (max (mx3 tk sn) b))) 120 10 (nI (min (mn3 tk un u) g))) n2 nS nC fr tk p o i u sn un := hX.cg (by rw [up_n (by omega), up_n (by omega), fP 93 (by omega) (by omega) (by omega)]) (by rw [up_n (by omega), up_n (by omega), fP 94 (by omega) (by omega) (by omega)]) (fun j hj hji R hR => hR.cg (by rw [up_n (by omega), up_n (by omega), fP _ (by omega) (by omega) (by omega)]) (by rw [up_n (by omega), up_n (by omega), fP _ (by omega) (by omega) (by omega)]) (by rw [up_n (by omega), up_n (by omega), fP _ (by omega) (by omega) (by omega)])) (by rw [up_n (by omega), up_n (by omega), fP 90 (by omega) (by omega) (by omega)]) (by rw [up_m (by omega), up_m (by omega), fP 120 (by omega) (by omega) (by omega)]) (s5 42 (by omega) (by omega) (by omega) (by omega) (by omega)) hit (fun j hj => by rw [s3, pk_un hj]) (fun j hj => by rw [s4, pk_un hj]) (s5 57 (by omega) (by omega) (by omega) (by omega) (by omega)) (by rw [s5 0 (by omega) (by omega) (by omega) (by omega) (by omega)]) (by rw [s5 0 (by omega) (by omega) (by omega) (by omega) (by omega)]) (by rw [s5 0 (by omega) (by omega) (by omega) (by omega) (by omega)]) s6 ⟨fun a _ _ => s5 a (by omega) (by omega) (by omega) (by omega) (by omega), fun j _ _ => by rw [s5 0 (by omega) (by omega) (by omega) (by omega) (by omega)]⟩ ⟨fun a _ _ => by rw [up_n (by omega), up_n (by omega), fP a (by omega) (by omega) (by omega)], fun a _ _ => s5 a (by omega) (by omega) (by omega) (by omega) (by omega), by rw [s5 0 (by omega) (by omega) (by omega) (by omega) (by omega)], by rw [s5 0 (by omega) (by omega) (by omega) (by omega) (by omega)]⟩
    obtain ⟨N', n', v1, v2, v3⟩ := close2 (h := 0) (opn := false) (f := b) (g := g) hfu hAB' hX' hi hit (rR.cg (by rw [up_n (by omega), up_n (by omega)]) (by rw [up_n (by omega), up_n (by omega)]) (by rw [up_n (by omega), up_n (by omega)])) s2 hokE (by rw [up_n (by omega), up_n (by omega), fP 90 (by omega) (by omega) (by omega)]; exact h7) (by rw [up_m (by omega), up_s]) (by rw [up_s]) (by rw [s3, pk_us]) (by rw [s4, pk_us]) b1 g1 (by omega)
    refine ⟨N', n', t, 0, _, _, _, ?_, ?_, Nat.le_refl _, by omega, by omega, v3⟩
    · rw [show (0 : Int32) = nI 0 from rfl, v1, bd_some]
    · exact v2
end Take4
