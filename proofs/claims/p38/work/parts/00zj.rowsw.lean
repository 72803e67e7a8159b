/-! ===== rows that are matched: the reference ===== -/
def RW (m : Mem) (i : Nat) (F : List Row) : Prop := m 49 i = nI F.length ∧ F.length ≤ 12 ∧ ∀ k r, F[k]? = some r → ∀ c, c < 4 → m 50 (4 * (12 * i + k) + c) = cel r c
/-- where the rows of a seat come from -/
def RX (m : Mem) (hh : Bool) (i : Nat) (A : List Row) : Prop := (hh = true → RS m i A) ∧ (hh = false → ∃ s, s < 6 ∧ m 19 i = nI s ∧ RM m s A)
section RowsW
variable {fu nS nL nC nO i j s t u e p c to : Nat} {M m N n : Mem} {A F : List Row} {r : Row} {hh : Bool}
theorem rw18t {f : Nat} (hi : i < 3) (hp : p < 12) (hto : to + 3 < 144) {k : Mem → Option Mem} (h0 : M 45 (4 * (12 * i + p)) = cel r 0) (h1 : M 45 (4 * (12 * i + p) + 1) = cel r 1) (h2 : M 45 (4 * (12 * i + p) + 2) = cel r 2) (h3 : M 45 (4 * (12 * i + p) + 3) = cel r 3) : f_X11_laysRow_L18 fu (nI i) 1 (nI p) (nI to) k (f + 5) (nI 0) M = k (row M 50 (pu4 (M 50) to r)) := by
  have i1 : ¬ (nI 1 : Int32) = nI 0 := by decide
  simp (disch := omega) only [f_X11_laysRow_L18, lit, nI_add, pk_mul, pk_sub, nI_clamp, inb_nI, nI_leI, nI_ltI, nI_eq, add_m1, ↓reduceIte, grd_true, nm_d, jn_d, bd_some, bm_some, om_some, om_none, i1, show ¬ 4 ≤ 0 by omega, show ¬ 4 ≤ 0 + 1 by omega, show ¬ 4 ≤ 0 + 1 + 1 by omega, show ¬ 4 ≤ 0 + 1 + 1 + 1 by omega, show 4 ≤ 0 + 1 + 1 + 1 + 1 by omega, up_n]
  simp only [Nat.zero_add, Nat.add_zero, Nat.add_assoc, Nat.reduceAdd, h0, h1, h2, h3, up_row, row_s, row_row, pu4]
  rfl
theorem rw18fs {k : Mem → Option Mem} {n : Nat} (hi : i < 3) (hs : M 19 i = nI s) (hs6 : s < 6) (hp : p < 12) (hto : to + 3 < 144) (hc : c < 4) : f_X11_laysRow_L18 fu (nI i) 0 (nI p) (nI to) k (n + 1) (nI c) M = f_X11_laysRow_L18 fu (nI i) 0 (nI p) (nI to) k n (nI (c + 1)) (up M 50 (to + c) (M 3 (4 * (12 * s + p) + c))) := by
  have h4 : ¬ 4 ≤ c := by omega
  simp (disch := omega) only [f_X11_laysRow_L18, lit, nI_add, pk_mul, pk_sub, nI_clamp, inb_nI, nI_leI, nI_ltI, nI_eq, add_m1, ↓reduceIte, grd_true, nm_d, jn_d, bd_some, bm_some, om_some, om_none, hs, h4]
theorem rw18fe {k : Mem → Option Mem} {n : Nat} {x : Int32} : f_X11_laysRow_L18 fu (nI i) x (nI p) (nI to) k (n + 1) (nI 4) M = k M := by
  simp (disch := omega) only [f_X11_laysRow_L18, lit, nI_add, pk_mul, pk_sub, nI_clamp, inb_nI, nI_leI, nI_ltI, nI_eq, add_m1, ↓reduceIte, grd_true, nm_d, jn_d, bd_some, bm_some, om_some, om_none, Nat.le_refl]
theorem rw18f {f : Nat} (hi : i < 3) (hs : M 19 i = nI s) (hs6 : s < 6) (hp : p < 12) (hto : to + 3 < 144) {k : Mem → Option Mem} (h0 : M 3 (4 * (12 * s + p)) = cel r 0) (h1 : M 3 (4 * (12 * s + p) + 1) = cel r 1) (h2 : M 3 (4 * (12 * s + p) + 2) = cel r 2) (h3 : M 3 (4 * (12 * s + p) + 3) = cel r 3) : f_X11_laysRow_L18 fu (nI i) 0 (nI p) (nI to) k (f + 5) (nI 0) M = k (row M 50 (pu4 (M 50) to r)) := by
  rw [rw18fs (n := f + 4) (c := 0) hi hs hs6 hp hto (by omega), rw18fs (n := f + 3) (c := 0 + 1) hi (by rw [up_n (by omega)]; exact hs) hs6 hp hto (by omega), rw18fs (n := f + 2) (c := 0 + 1 + 1) hi (by rw [up_n (by omega), up_n (by omega)]; exact hs) hs6 hp hto (by omega), rw18fs (n := f + 1) (c := 0 + 1 + 1 + 1) hi (by rw [up_n (by omega), up_n (by omega), up_n (by omega)]; exact hs) hs6 hp hto (by omega)]
  refine (rw18fe (n := f)).trans ?_
  congr 1
  simp (disch := omega) only [up_n]
  simp only [Nat.zero_add, Nat.add_zero, Nat.reduceAdd, h0, h1, h2, h3, up_row, row_s, row_row, pu4]
  rfl
theorem rw18 {f : Nat} (hi : i < 3) (hX : RX M hh i A) (hr : A[p]? = some r) (hto : to + 3 < 144) {k : Mem → Option Mem} : f_X11_laysRow_L18 fu (nI i) (bI hh) (nI p) (nI to) k (f + 5) (nI 0) M = k (row M 50 (pu4 (M 50) to r)) := by
  have hl := gl_lt hr
  cases hh with
  | true =>
    have h := hX.1 rfl
    have h12 := h.2.1
    exact rw18t hi (by omega) hto (h.cell (c := 0) hr (by omega)) (h.cell (c := 1) hr (by omega)) (h.cell (c := 2) hr (by omega)) (h.cell (c := 3) hr (by omega))
  | false =>
    obtain ⟨s, s1, s2, h⟩ := hX.2 rfl
    have h12 := h.2.1
    exact rw18f hi s2 s1 (by omega) hto (h.cell (c := 0) hr (by omega)) (h.cell (c := 1) hr (by omega)) (h.cell (c := 2) hr (by omega)) (h.cell (c := 3) hr (by omega))
theorem rw90 {k : Int32 → Option Mem} (hG : DG m nS nL nC nO) (hi : i < 3) (hto : to + 3 < 144) (hc : ∀ c, c < 4 → m 50 (to + c) = cel r c) (hok : ∀ c, c < 4 → okc (cel r c)) : ∀ d w n, w + d = nC → d < n → f_X11_laysRow_L90 fu (nI i) (nI to) m k n (bI (al (hA m i r) w)) (nI w) = k (bI (al (hA m i r) nC)) := by
  have hcc := hG.2.2.1
  intro d
  induction d with
  | zero =>
    intro w n h1 h2
    obtain ⟨n, rfl⟩ := fu1 h2
    obtain rfl : w = nC := by omega
    simp (disch := omega) only [f_X11_laysRow_L90, hcc.1, lit, nI_add, pk_mul, pk_sub, nI_clamp, inb_nI, nI_leI, nI_ltI, nI_eq, add_m1, ↓reduceIte, grd_true, nm_d, jn_d, bd_some, bm_some, om_some, om_none, Nat.le_refl]
  | succ d ih =>
    intro w n h1 h2
    obtain ⟨n, rfl⟩ := fu1 h2
    have h3 : ¬ nC ≤ w := by omega
    obtain ⟨k1, k2, k3, k4⟩ := hld_eq hG (show w < nC by omega) hok
    have ix : nI to + m 25 w = nI (to + (m 25 w).toNatClampNeg) := by
      rw [k4, nI_add, nI_clamp (by omega)]
    have e := hc _ k3
    have h4 := ih (w + 1) n (by omega) (by omega)
    simp only [al] at h4
    have hk3' : to + (m 25 w).toNatClampNeg < 144 := by omega
    generalize (m 25 w).toNatClampNeg = c at *
    simp (disch := omega) only [f_X11_laysRow_L90, hcc.1, lit, nI_leI, inb_nI, grd_true, nI_clamp, nm_d, jn_d, h3, ↓reduceIte, ix, bd_some, bI_0, e, k1, nI_add]
    cases h5 : al (hA m i r) w with
    | false =>
      rw [if_pos rfl]
      rw [h5] at h4
      exact h4
    | true =>
      rw [if_neg (by decide)]
      rw [h5] at h4
      simp only [hA] at h4
      by_cases h6 : m 24 w = nI i
      · rw [if_pos h6]
        simp only [h6, decide_true] at h4
        cases h7 : hld m w r with
        | false =>
          rw [if_pos rfl]
          rw [h7] at h4
          exact h4
        | true =>
          rw [if_neg (by decide)]
          rw [h7] at h4
          exact h4
      · rw [if_neg h6]
        simp only [h6, decide_false] at h4
        exact h4
theorem RW.cg (h : RW m i F) (h1 : n 49 i = m 49 i) (h2 : ∀ x, x < 48 → n 50 (48 * i + x) = m 50 (48 * i + x)) : RW n i F := by
  obtain ⟨a, b, c⟩ := h
  refine ⟨by rw [h1]; exact a, b, fun k r hr x hx => ?_⟩
  have := gl_lt hr
  rw [show 4 * (12 * i + k) + x = 48 * i + (4 * k + x) by omega, h2 _ (by omega), show 48 * i + (4 * k + x) = 4 * (12 * i + k) + x by omega]
  exact c k r hr x hx
theorem laysRow_eq (hfu : 5000 ≤ fu) (hG : DG m nS nL nC nO) (hi : i < 3) (hX : RX m hh i A) (hr : A[p]? = some r) (hok : ∀ c, c < 4 → okc (cel r c)) (hF : RW m i F) (hl : F.length < 12) : ∃ N, f_X11_laysRow fu (nI i) (bI hh) (nI p) m = some N ∧ RW N i (F ++ if al (hA m i r) nC = true then [r] else []) ∧ (∀ a, a ≠ 49 → a ≠ 50 → N a = m a) ∧ (∀ j, j ≠ i → N 49 j = m 49 j) ∧ (∀ x, x < 48 * i ∨ 48 * i + 48 ≤ x → N 50 x = m 50 x) := by
  obtain ⟨f, rfl⟩ : ∃ f, fu = f + 5 := ⟨fu - 5, by omega⟩
  have e18 := rw18 (fu := f + 5) (f := f) (to := 4 * (12 * i + F.length)) (k := fun (M_4 : Mem) => f_X11_laysRow_L90 (f + 5) (nI i) (nI (4 * (12 * i + F.length))) M_4 (fun (x5_6 : Int32) => nm ((if x5_6 = 0 then 0 else 1) : Int32) (fun v_8 => nm (up M_4 49 i ((M_4 49 i) + v_8)) (fun M_9 => some M_9))) (f + 5) 1 0) hi hX hr (by omega)
  generalize hP : row m 50 (pu4 (m 50) (4 * (12 * i + F.length)) r) = P at e18
  have fP : ∀ a, a ≠ 50 → P a = m a := fun a ha => by rw [← hP, row_n ha]
  have P50 : P 50 = pu4 (m 50) (4 * (12 * i + F.length)) r := by rw [← hP, row_s]
  have fD : DS P m := ⟨fun a h1 h2 => fP a (by omega), fun j h1 h2 => by rw [fP 0 (by omega)]⟩
  have e90 := rw90 (fu := f + 5) (r := r) (to := 4 * (12 * i + F.length)) (k := fun (x5_6 : Int32) => nm ((if x5_6 = 0 then 0 else 1) : Int32) (fun v_8 => nm (up P 49 i ((P 49 i) + v_8)) (fun M_9 => some M_9))) (hG.cg fD) hi (by omega) (fun c hc => by rw [P50]; exact pu4_at hc) hok nC 0 (f + 5) (by omega) (by have := hG.2.2.1.2; omega)
  rw [fD.cA] at e90
  have e0 : bI (al (hA m i r) 0) = 1 := rfl
  rw [e0] at e90
  refine ⟨up P 49 i (nI (F ++ if al (hA m i r) nC = true then [r] else []).length), ?_, ⟨up_s, ?_, ?_⟩, fun a h1 h2 => by rw [up_n h1, fP a h2], fun j hj => by rw [up_m hj, fP 49 (by omega)], fun x hx => by rw [up_n (by omega), P50, pu4_no (by omega)]⟩
  · have e1 : f_X11_laysRow (f + 5) (nI i) (bI hh) (nI p) m = f_X11_laysRow_L18 (f + 5) (nI i) (bI hh) (nI p) (nI (4 * (12 * i + F.length))) (fun (M_4 : Mem) => f_X11_laysRow_L90 (f + 5) (nI i) (nI (4 * (12 * i + F.length))) M_4 (fun (x5_6 : Int32) => nm ((if x5_6 = 0 then 0 else 1) : Int32) (fun v_8 => nm (up M_4 49 i ((M_4 49 i) + v_8)) (fun M_9 => some M_9))) (f + 5) 1 0) (f + 5) (nI 0) m := by
      have c1 : (nI i).toNatClampNeg = i := nI_clamp (by omega)
      unfold f_X11_laysRow
      refine grd_to (inb_nI hi (by omega)) ?_
      refine nm_to (w := nI (4 * (12 * i + F.length))) (by rw [c1, hF.1, show (4 : Int32) = nI 4 from rfl, show (12 : Int32) = nI 12 from rfl, pk_mul, nI_add, pk_mul]) ?_
      simp only [jn_d, c1]
      rfl
    rw [e1, e18]
    refine e90.trans ?_
    have hlen : P 49 i = nI F.length := by rw [fP 49 (by omega)]; exact hF.1
    simp only [nm_d, hlen]
    congr 2
    cases al (hA m i r) nC with
    | true =>
      rw [if_neg (by decide), if_pos rfl, List.length_append]
      exact nI_add F.length 1
    | false =>
      rw [if_pos (by decide), if_neg (by decide), List.append_nil]
      exact nI_add F.length 0
  · rw [List.length_append]
    split <;> simp <;> omega
  · intro k r' hk x hx
    rw [up_n (by omega), P50]
    by_cases hkl : k < F.length
    · rw [List.getElem?_append_left hkl] at hk
      rw [pu4_no (by omega)]
      exact hF.2.2 k r' hk x hx
    · have hk2 := gl_lt hk
      rw [List.getElem?_append_right (by omega)] at hk
      split at hk
      · have hkl2 := gl_lt hk
        simp at hkl2
        have : k = F.length := by omega
        subst this
        simp at hk
        subst hk
        exact pu4_at hx
      · simp at hk
end RowsW
