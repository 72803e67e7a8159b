/-! ===== a bind of a seat: both ===== -/
section Bind
variable {fu nS nL nC nO i j s t u e p c t0 dl c0 sc K x4 : Nat} {M m N n : Mem} {RR : Nat → List Row} {A : List Row} {o : Nat} {kf : Nat → Int32}
theorem ct_add {P1 P2 P3 : Nat → Bool} {l : Nat} (h : ∀ k, k < l → ¬ (P1 k = true ∧ P2 k = true)) (h1 : ∀ k, P1 k = true → P3 k = true) (h2 : ∀ k, P2 k = true → P3 k = true) : ct P1 l + ct P2 l ≤ ct P3 l := by
  induction l with
  | zero => exact Nat.le_refl 0
  | succ l ih =>
    have ih' := ih (fun k hk => h k (by omega))
    have h0 := h l (by omega)
    simp only [ct]
    cases e1 : P1 l with
    | true =>
      rw [h1 l e1]
      cases e2 : P2 l with
      | true => exact absurd ⟨e1, e2⟩ h0
      | false => simp only [↓reduceIte, Bool.false_eq_true]; omega
    | false =>
      cases e2 : P2 l with
      | true => rw [h2 l e2]; simp only [↓reduceIte, Bool.false_eq_true]; omega
      | false => simp only [↓reduceIte, Bool.false_eq_true]; omega
theorem rsel_add {R : List Row} {a b : Nat} (hab : a ≤ b) (hb : b ≤ K) (hKD : KD (kf, K)) : ct (rsel kf (some c) 0 a R) R.length + ct (rsel kf (some c) a b R) R.length ≤ ct (rsel kf (some c) 0 b R) R.length := by
  refine ct_add (fun k hk h => ?_) (fun k h => ?_) (fun k h => ?_)
  · obtain ⟨r, hr⟩ := gl_some (R := R) hk
    simp only [rsel, hr, ksel] at h
    obtain ⟨x, hx1, hx2⟩ := an_ex h.1
    obtain ⟨y, hy1, hy2⟩ := an_ex h.2
    simp only [Bool.and_eq_true, decide_eq_true_eq] at hx2 hy2
    exact hKD x y (by omega) (by show y < K; omega) (by show kf x = kf y; rw [hx2.2, hy2.2])
  · simp only [rsel] at h ⊢
    split at h
    · cases h
    · simp only [ksel] at h ⊢
      obtain ⟨x, hx1, hx2⟩ := an_ex h
      exact an_t hx2 (by omega)
  · simp only [rsel] at h ⊢
    split at h
    · cases h
    · simp only [ksel] at h ⊢
      obtain ⟨x, hx1, hx2⟩ := an_ex h
      simp only [Bool.and_eq_true, decide_eq_true_eq] at hx2
      exact an_t (k := x) (by simp [hx2.2]) hx1
def mk158 : Int32 → Mem → Option (Int32 × Mem) := fun x5_9 M_10 => if x5_9 = 0 then some ((1 + 0), M_10) else some ((1 + 10), M_10)
theorem bindL (hfu : 5000 ≤ fu) (hi : i < nS) (hi3 : i < 3) (hc4 : c < 4) (hs6 : s < 6) (hK : K ≤ 12) (hKD : KD (kf, K)) (ho : o < 8) (hbit : o.testBit i = false) (hl : t0 + dl < 2 ^ 29) (hx4 : c0 + x4 < 2 ^ 29) : ∀ d first k k' (M m : Mem) (A : List Row) (t sc : Nat) (b : Bool), K ≤ first + 4 * d → d < k → d < k' → AB M m t u nS nL nC nO RR t0 dl c0 sc → RC M (96 + 3 * i) A → RS m i A → okR A → A.length ≤ ct (rsel kf (some c) 0 (min first K) (RR s)) (RR s).length → M 90 7 = nI (ob o i b) → M 120 6 = nI K → m 0 63 = nI K → m 48 = kf → m 19 i = nI s → first ≤ 40 → t + 120 * d < 2 ^ 29 → c0 + sc + 39 * d < 2 ^ 29 →
    ∃ N n A' opn t' sc', (t ≤ t' ∧ t' ≤ t + 120 * d) ∧ sc' ≤ sc + 39 * d ∧ AB N n t' u nS nL nC nO RR t0 dl c0 sc' ∧ RC N (96 + 3 * i) A' ∧ RS n i A' ∧ okR A' ∧ N 90 7 = nI (ob o i opn) ∧ FCs i N M ∧ FMs n m ∧ RSo i n m ∧
      ((f_X1_bind_L17 fu (nI i) (nI c) (nI (c0 + x4)) (nI (s / 2)) k (nI first) M = some (1, N) ∧ f_X11_binds_L44 fu (nI i) (nI c) (nI (s / 2)) (nI x4) mk158 k' (bI b) (nI first) m = some ((if opn = true then 11 else 1), n)) ∨
       (f_X1_bind_L17 fu (nI i) (nI c) (nI (c0 + x4)) (nI (s / 2)) k (nI first) M = some (2, N) ∧ f_X11_binds_L44 fu (nI i) (nI c) (nI (s / 2)) (nI x4) mk158 k' (bI b) (nI first) m = bm (f_X11_scans fu (nI i) n) (fun r_32 M_33 => (if r_32 = 0 then some ((2 + 0), M_33) else some ((2 + 10), M_33))))) := by
  have hs2 : s / 2 < 3 := by omega
  intro d
  induction d with
  | zero =>
    intro first k k' M m A t sc b h1 h2 h3 hAB hA1 hA2 hok hlen hm7 h6 h63 hkf h19 h40 ht hcc
    obtain ⟨k, rfl⟩ := fu1 h2
    obtain ⟨k', rfl⟩ := fu1 h3
    have h5 : K ≤ first := by omega
    refine ⟨M, m, A, b, t, sc, by omega, by omega, hAB, hA1, hA2, hok, hm7, .rfl, .rfl, .rfl, Or.inl ⟨?_, ?_⟩⟩
    · simp (disch := omega) only [f_X1_bind_L17, h6, lit, nI_add, pk_mul, pk_sub, nI_clamp, inb_nI, nI_leI, nI_ltI, nI_eq, add_m1, ↓reduceIte, grd_true, nm_d, jn_d, bd_some, bm_some, om_some, om_none, h5]
    · simp (disch := omega) only [f_X11_binds_L44, h63, nI_leI, ↓reduceIte, h5, mk158]
      cases b <;> rfl
  | succ d ih =>
    intro first k k' M m A t sc b h1 h2 h3 hAB hA1 hA2 hok hlen hm7 h6 h63 hkf h19 h40 ht hcc
    obtain ⟨k, rfl⟩ := fu1 h2
    obtain ⟨k', rfl⟩ := fu1 h3
    by_cases h5 : K ≤ first
    · refine ⟨M, m, A, b, t, sc, by omega, by omega, hAB, hA1, hA2, hok, hm7, .rfl, .rfl, .rfl, Or.inl ⟨?_, ?_⟩⟩
      · simp (disch := omega) only [f_X1_bind_L17, h6, lit, nI_add, pk_mul, pk_sub, nI_clamp, inb_nI, nI_leI, nI_ltI, nI_eq, add_m1, ↓reduceIte, grd_true, nm_d, jn_d, bd_some, bm_some, om_some, om_none, h5]
      · simp (disch := omega) only [f_X11_binds_L44, h63, nI_leI, ↓reduceIte, h5, mk158]
        cases b <;> rfl
    · obtain ⟨N1, n1, t1, sc1, r, g1, g2, g3, g4, g5, g6, g7, g8⟩ := hAB.req hfu hs2 (by omega) hl (by omega)
      have v6 : N1 120 6 = nI K := by rw [g7.1 120 (by omega) (by omega) (by omega) (by omega) (by omega) (by omega) (by omega)]; exact h6
      have v63 : n1 0 63 = nI K := by rw [g8.2 63 (by omega) (by omega) (by omega) (by omega) (by omega)]; exact h63
      have v48 : n1 48 = kf := by rw [g8.1 48 (by omega) (by omega) (by omega) (by omega) (by omega)]; exact hkf
      have v19 : n1 19 i = nI s := by rw [g8.1 19 (by omega) (by omega) (by omega) (by omega) (by omega)]; exact h19
      have v7 : N1 90 7 = nI (ob o i b) := by rw [g7.2 7 (by omega) (by omega)]; exact hm7
      have vA1 : RC N1 (96 + 3 * i) A := hA1.cg (by rw [g7.1 _ (by omega) (by omega) (by omega) (by omega) (by omega) (by omega) (by omega)]) (by rw [g7.1 _ (by omega) (by omega) (by omega) (by omega) (by omega) (by omega) (by omega)]) (by rw [g7.1 _ (by omega) (by omega) (by omega) (by omega) (by omega) (by omega) (by omega)])
      have vRS : RSo i n1 m ∧ RS n1 i A := by
        have f : ∀ a, 42 < a → n1 a = m a := fun a ha => g8.1 a (by omega) (by omega) (by omega) (by omega) (by omega)
        exact ⟨fun i' A' z1 z2 z3 => z3.cg (by rw [f 43 (by omega)]) (f 44 (by omega)) (f 45 (by omega)), hA2.cg (by rw [f 43 (by omega)]) (f 44 (by omega)) (f 45 (by omega))⟩
      have i10 : ¬ (1 : Int32) = nI 0 := by decide
      have e00 : (0 : Int32) = nI 0 := rfl
      have b44 : nI first + nI 4 = nI (first + 4) := nI_add _ _
      have bh : (if nI K < nI (first + 4) then nI K else nI (first + 4)) = nI (min (first + 4) K) := by
        have e : (nI K < nI (first + 4)) = (K < first + 4) := propext (nI_ltI (by omega) (by omega))
        simp only [e]
        split
        · congr 1; omega
        · congr 1; omega
      have bh2 : (if nI K ≤ nI (first + 4) then nI K else nI (first + 4)) = nI (min (first + 4) K) := by
        have e : (nI K ≤ nI (first + 4)) = (K ≤ first + 4) := propext (nI_leI (by omega) (by omega))
        simp only [e]
        split
        · congr 1; omega
        · congr 1; omega
      have nleI : (nI K ≤ nI first) = False := by rw [eq_iff_iff, iff_false, nI_leI (by omega) (by omega)]; exact h5
      have eC : f_X1_bind_L17 fu (nI i) (nI c) (nI (c0 + x4)) (nI (s / 2)) (k + 1) (nI first) M = (if r = nI 0 then bd (f_X1_open fu (nI i) N1) (fun M_19 => some (1, M_19)) else bm (f_X1_receive fu (nI i) (nI c) (nI first) (nI (min (first + 4) K)) N1) (fun r_12 M_13 => (if (M_13 120 6) ≤ nI (min (first + 4) K) then f_X1_bind_L17 fu (nI i) (nI c) (nI (c0 + x4)) (nI (s / 2)) k (nI (first + 4)) M_13 else (if (M_13 90 9) < nI (c0 + x4) then f_X1_bind_L17 fu (nI i) (nI c) (nI (c0 + x4)) (nI (s / 2)) k (nI (first + 4)) M_13 else some (2, M_13))))) := by
        simp only [f_X1_bind_L17, h6, nleI, ↓reduceIte, g1, bm_some, nm_d, v6, lit, b44, bh]
      have eM : f_X11_binds_L44 fu (nI i) (nI c) (nI (s / 2)) (nI x4) mk158 (k' + 1) (bI b) (nI first) m = (if r = nI 0 then some (11, n1) else bd (f_X11_comes fu (nI i) (nI c) (nI first) (nI (min (first + 4) K)) n1) (fun M_23 => (if (M_23 0 63) ≤ nI (min (first + 4) K) then f_X11_binds_L44 fu (nI i) (nI c) (nI (s / 2)) (nI x4) mk158 k' (if bI b = nI 0 then (if (M_23 0 62) = nI 0 then nI 0 else nI 1) else nI 1) (nI (first + 4)) M_23 else (if (M_23 0 55) < nI x4 then f_X11_binds_L44 fu (nI i) (nI c) (nI (s / 2)) (nI x4) mk158 k' (if bI b = nI 0 then (if (M_23 0 62) = nI 0 then nI 0 else nI 1) else nI 1) (nI (first + 4)) M_23 else bm (f_X11_scans fu (nI i) M_23) (fun r_32 M_33 => (if r_32 = nI 0 then some ((nI 2 + nI 0), M_33) else some ((nI 2 + nI 10), M_33))))))) := by
        simp only [f_X11_binds_L44, h63, nleI, ↓reduceIte, g2, bm_some, nm_d, v63, lit, b44, bh2]
        rfl
      rcases g3 with rfl | rfl
      · have hop := (bits ho hi3 b hbit).1
        refine ⟨up N1 90 7 (nI (ob o i true)), n1, A, true, t1, sc1, by omega, by omega, ?_, vA1.cg (by rw [up_n (by omega)]) (by rw [up_n (by omega)]) (by rw [up_n (by omega)]), vRS.2, hok, up_s, FCs.trans ⟨fun a h1 h2 h3 h4 h5 => up_n h2, fun j h1 h2 h3 h4 => up_m h1⟩ g7.sf, g8.sf, vRS.1, Or.inl ⟨?_, ?_⟩⟩
        · refine g6.of (g6.1.1.cg (fun a h1 h2 h3 => by rw [up_n (by omega)]) rfl rfl rfl (fun a h1 h2 => rfl) (fun a h1 h2 => rfl)) (Nat.le_refl _) ?_ (fun a ha => by rw [up_n (by omega)]) (fun a ha => rfl) (fun j hj => rfl) (g6.2.2.2.1.cg (by rw [up_n (by omega)]) rfl)
          obtain ⟨q1, q2, q3, q4, q5, q6, q7, q8⟩ := g6.2.2.2.2.2.2.1
          exact ⟨by rw [up_n (by omega)]; exact q1, q2, q3, by rw [up_m (by omega)]; exact q4, q5, q6, by rw [up_m (by omega)]; exact q7, by rw [up_m (by omega)]; exact q8⟩
        · rw [eC, if_pos (show (0 : Int32) = nI 0 from rfl)]
          simp only [f_X1_open, nm_d, bd_some, v7]
          rw [show (1 <<< (nI i &&& 31) : Int32) = nI 1 <<< (nI i &&& nI 31) from rfl, hop]
        · rw [eM, if_pos (show (0 : Int32) = nI 0 from rfl)]
          rfl
      · obtain ⟨s', cap', hs6', hs', hcap', hSt', hok'⟩ := g6.st hi
        have hss : s' = s := by
          rw [v19, nI_eq (by omega) (by omega)] at hs'
          exact hs'.symm
        subst hss
        rw [v48] at hSt'
        have hR12 := hSt'.2.2.2.1.2.1
        have hmf : min first K = first := by omega
        rw [hmf] at hlen
        have hadd := rsel_add (c := c) (R := RR s') (a := first) (b := min (first + 4) K) (by omega) (by omega) hKD
        have hct := ct_le (P := rsel kf (some c) 0 (min (first + 4) K) (RR s')) (n := (RR s').length)
        obtain ⟨N2, n2, A', cut, sc2, k1, k2, k3, k4, k5, k6, k7, k8, k9, k10, k11, k12, k13⟩ := g6.rec (co := some c) (a := first) (b := min (first + 4) K) (b0 := b) (B := ct (rsel kf (some c) 0 (min (first + 4) K) (RR s')) (RR s').length) (A := A) hfu hi hs6 hcap' (by rw [v48]; exact hSt') hok' (fun c' hc' => by cases hc'; exact hc4) (by omega) (by omega) (by omega) ho hbit vA1 vRS.2 (by rw [v48]; omega) v7
        have ec : oI (some c) = nI c := rfl
        rw [ec] at k1 k2
        have w6 : N2 120 6 = nI K := by rw [k10.1 120 (by omega) (by omega) (by omega) (by omega)]; exact v6
        have w63 : n2 0 63 = nI K := by rw [k11.2 63 (by omega) (by omega) (by omega) (by omega)]; exact v63
        have w48 : n2 48 = kf := by rw [k11.1 48 (by omega) (by omega) (by omega) (by omega)]; exact v48
        have w19 : n2 19 i = nI s' := by rw [k11.1 19 (by omega) (by omega) (by omega) (by omega)]; exact v19
        have hA : okR A' := fun r hr => by
          rcases k13 r hr with hh | hh
          · exact hok r hh
          · exact hok' r hh
        have w9 : N2 90 9 = nI (c0 + sc2) := k7.2.2.2.2.2.2.1.2.2.2.1
        have w55 : n2 0 55 = nI sc2 := k7.2.2.2.2.2.2.1.2.2.2.2.2.1
        have hob : (if bI b = nI 0 then (if n2 0 62 = nI 0 then nI 0 else nI 1) else nI 1) = bI (b || cut) := by
          rw [k9]
          cases b <;> cases cut <;> rfl
        have c1 : (nI K ≤ nI (min (first + 4) K)) = (K ≤ first + 4) := propext (by rw [nI_leI (by omega) (by omega)]; omega)
        have c2 : (nI (c0 + sc2) < nI (c0 + x4)) = (sc2 < x4) := propext (by rw [nI_ltI (by omega) (by omega)]; omega)
        have c3 : (nI sc2 < nI x4) = (sc2 < x4) := propext (by rw [nI_ltI (by omega) (by omega)])
        have fCC : FCs i N2 M := k10.sf.trans g7.sf
        have fMM : FMs n2 m := k11.sf.trans g8.sf
        have fRR : RSo i n2 m := k12.trans vRS.1
        rw [eC, if_neg i10, k1, bm_some, eM, if_neg i10, k2, bd_some, w6, w63, w9, w55, hob]
        simp only [c1, c2, c3]
        have go : ∃ N n A' opn t' sc', (t ≤ t' ∧ t' ≤ t + 120 * (d + 1)) ∧ sc' ≤ sc + 39 * (d + 1) ∧ AB N n t' u nS nL nC nO RR t0 dl c0 sc' ∧ RC N (96 + 3 * i) A' ∧ RS n i A' ∧ okR A' ∧ N 90 7 = nI (ob o i opn) ∧ FCs i N M ∧ FMs n m ∧ RSo i n m ∧
            ((f_X1_bind_L17 fu (nI i) (nI c) (nI (c0 + x4)) (nI (s' / 2)) k (nI (first + 4)) N2 = some (1, N) ∧ f_X11_binds_L44 fu (nI i) (nI c) (nI (s' / 2)) (nI x4) mk158 k' (bI (b || cut)) (nI (first + 4)) n2 = some ((if opn = true then 11 else 1), n)) ∨
             (f_X1_bind_L17 fu (nI i) (nI c) (nI (c0 + x4)) (nI (s' / 2)) k (nI (first + 4)) N2 = some (2, N) ∧ f_X11_binds_L44 fu (nI i) (nI c) (nI (s' / 2)) (nI x4) mk158 k' (bI (b || cut)) (nI (first + 4)) n2 = bm (f_X11_scans fu (nI i) n) (fun r_32 M_33 => (if r_32 = 0 then some ((2 + 0), M_33) else some ((2 + 10), M_33))))) := by
          obtain ⟨N, n, A'', opn, t', sc', y1, y2, y3, y4, y5, y6, y7, y8, y9, y10, y11⟩ := ih (first + 4) k k' N2 n2 A' t1 sc2 (b || cut) (by omega) (by omega) (by omega) k7 k4 k5 hA k6 k8 w6 w63 w48 w19 (by omega) (by omega) (by omega)
          exact ⟨N, n, A'', opn, t', sc', by omega, by omega, y3, y4, y5, y6, y7, y8.trans fCC, y9.trans fMM, y10.trans fRR, y11⟩
        by_cases hK4 : K ≤ first + 4
        · simp only [hK4, ↓reduceIte]; exact go
        · simp only [hK4, ↓reduceIte]
          by_cases hcost : sc2 < x4
          · simp only [hcost, ↓reduceIte]; exact go
          · simp only [hcost, ↓reduceIte]
            exact ⟨N2, n2, A', b || cut, t1, sc2, by omega, by omega, k7, k4, k5, hA, k8, fCC, fMM, fRR, Or.inr ⟨rfl, rfl⟩⟩
end Bind
