/-! ===== the next seat; the keys: both ===== -/
def ogs (m : Mem) (nC : Nat) (z : Nat → Nat) (o : Option Nat) : Int32 := match o with | none => nI 2147483647 | some f => nI (gss m f nC (z f))
def ZZ (m : Mem) (nS : Nat) (z : Nat → Nat) : Prop := ∀ j, j < nS → ∃ s, s < 6 ∧ m 19 j = nI s ∧ m 18 s = nI (z j) ∧ z j < 2 ^ 20
section SeatN
variable {fu nS nL nC nO i s t e p : Nat} {M m N n : Mem} {tk : Nat → Bool} {z : Nat → Nat}
theorem gss_b {z : Nat} (h : z < 2 ^ 20) : gss m i nC z < 2 ^ 20 := by
  have hle : z / 2 ^ ct (snt m i) nC ≤ z := Nat.div_le_self _ _
  simp only [gss]
  omega
theorem enI_n1 {o : Option Nat} (h : ∀ l, o = some l → l < 3) : (enI m i o = -nI 1) = (o = none) := by
  cases o with
  | none => simp [enI]
  | some l =>
    have := h l rfl
    simp only [enI, reduceCtorEq, eq_iff_iff, iff_false]
    split
    · exact nI_nm1 (by omega)
    · exact nI_nm1 (by omega)
theorem nextL2 (hfu : 5000 ≤ fu) (hD : DR M m) (hG : DG m nS nL nC nO) (hT : TK M m tk p) (h59 : M 59 = m 18) (hz : ZZ m nS z) : ∀ d s n n' (o : Option Nat) (ln : Bool), s + d = nS → d < n → d < n' → (o = none → ln = false) → (∀ f, o = some f → f < nS ∧ tk f = false) →
    ∃ o' : Option Nat, f_X1_nextSeat_L10 fu M n (nI (o.getD 0)) (ogs m nC z o) (bI ln) (nI s) = some (nI (o'.getD 0)) ∧ f_X11_nextSeat_L6 fu m n' (oI o) (bI ln) (nI s) = some (oI o') ∧ (∀ f, o' = some f → f < nS ∧ tk f = false) ∧ (o' = none → o = none ∧ ∀ j, s ≤ j → j < nS → tk j = true) := by
  have hS := hG.1
  have hb3 := hG.2.1.2
  intro d
  induction d with
  | zero =>
    intro s n n' o ln h1 h2 h3 ho hf
    obtain ⟨n, rfl⟩ := fu1 h2
    obtain ⟨n', rfl⟩ := fu1 h3
    obtain rfl : s = nS := by omega
    refine ⟨o, ?_, ?_, hf, fun h => ⟨h, fun j _ _ => by omega⟩⟩
    · simp (disch := omega) only [f_X1_nextSeat_L10, hD.1.1, hS.1, lit, nI_add, pk_mul, pk_sub, nI_clamp, inb_nI, nI_leI, nI_ltI, nI_eq, add_m1, ↓reduceIte, grd_true, nm_d, jn_d, bd_some, bm_some, om_some, om_none, Nat.le_refl]
    · simp (disch := omega) only [f_X11_nextSeat_L6, hS.1, lit, nI_add, pk_mul, pk_sub, nI_clamp, inb_nI, nI_leI, nI_ltI, nI_eq, add_m1, ↓reduceIte, grd_true, nm_d, jn_d, bd_some, bm_some, om_some, om_none, Nat.le_refl]
  | succ d ih =>
    intro s n n' o ln h1 h2 h3 ho hf
    obtain ⟨n, rfl⟩ := fu1 h2
    obtain ⟨n', rfl⟩ := fu1 h3
    have h4 : ¬ nS ≤ s := by omega
    have hs3 : s < 3 := by omega
    have t42 := hT.2.1 s hs3
    have i1 : ¬ (nI 1 : Int32) = nI 0 := by decide
    have i0 : ¬ (nI 0 : Int32) = nI 1 := by decide
    obtain ⟨sr, k1, k2, k3, k4⟩ := hz s (by omega)
    have hgb := gss_b (m := m) (i := s) (nC := nC) k4
    have eg := guess_eq (fu := fu) hfu hG hs3 k2 k1 k3 k4
    have egc := guessOf_eq (fu := fu) hfu hD hG hs3 k2 k1 h59 k3 k4
    have hfl : ∀ l, fro (lkd m tk s) 0 nL = some l → l < 3 := fun l hl => by have := fro_lt hl; omega
    have el := linkOf_eq (fu := fu) hfu hG hT hs3
    have elc := endOf_eq (fu := fu) hfu hD hG hT hs3
    have c1 : (enI m s (fro (lkd m tk s) 0 nL) = -nI 1) = (fro (lkd m tk s) 0 nL = none) := enI_n1 hfl
    have c2 : (oI (fro (lkd m tk s) 0 nL) = -nI 1) = (fro (lkd m tk s) 0 nL = none) := propext (oI_none (fun l hl => by have := hfl l hl; omega))
    have c3 : (oI o = -nI 1) = (o = none) := propext (oI_none (fun l hl => by have := (hf l hl).1; omega))
    cases ht : tk s with
    | true =>
      rw [ht] at t42
      have et := isTaken_eq (fu := fu) hfu hT hs3
      rw [ht] at et
      have e1 : bI true = nI 1 := rfl
      rw [e1] at et t42
      obtain ⟨o', g1, g2, g3, g4⟩ := ih (s + 1) n n' o ln (by omega) (by omega) (by omega) ho hf
      refine ⟨o', ?_, ?_, g3, fun h => ⟨(g4 h).1, fun j hj1 hj2 => ?_⟩⟩
      · simp (disch := omega) only [f_X1_nextSeat_L10, hD.1.1, hS.1, lit, nI_add, pk_mul, pk_sub, nI_clamp, inb_nI, nI_leI, nI_ltI, nI_eq, add_m1, ↓reduceIte, grd_true, nm_d, jn_d, bd_some, bm_some, om_some, om_none, h4, et, i1]
        exact g1
      · simp (disch := omega) only [f_X11_nextSeat_L6, hS.1, lit, nI_add, pk_mul, pk_sub, nI_clamp, inb_nI, nI_leI, nI_ltI, nI_eq, add_m1, ↓reduceIte, grd_true, nm_d, jn_d, bd_some, bm_some, om_some, om_none, h4, t42, i1]
        exact g2
      · by_cases hjs : j = s
        · rw [hjs]; exact ht
        · exact (g4 h).2 j (by omega) hj2
    | false =>
      rw [ht] at t42
      have et := isTaken_eq (fu := fu) hfu hT hs3
      rw [ht] at et
      have e1 : bI false = nI 0 := rfl
      rw [e1] at et t42
      -- taken now, or left
      have hC : f_X1_nextSeat_L10 fu M (n + 1) (nI (o.getD 0)) (ogs m nC z o) (bI ln) (nI s) = (if (if fro (lkd m tk s) 0 nL = none then nI 0 else nI 1) = nI 0 then (if (if fro (lkd m tk s) 0 nL = none then nI 0 else nI 1) = bI ln then (if ogs m nC z o ≤ nI (gss m s nC (z s)) then f_X1_nextSeat_L10 fu M n (nI (o.getD 0)) (ogs m nC z o) (bI ln) (nI (s + 1)) else f_X1_nextSeat_L10 fu M n (nI s) (nI (gss m s nC (z s))) (if fro (lkd m tk s) 0 nL = none then nI 0 else nI 1) (nI (s + 1))) else f_X1_nextSeat_L10 fu M n (nI (o.getD 0)) (ogs m nC z o) (bI ln) (nI (s + 1))) else (if bI ln = nI 0 then f_X1_nextSeat_L10 fu M n (nI s) (nI (gss m s nC (z s))) (if fro (lkd m tk s) 0 nL = none then nI 0 else nI 1) (nI (s + 1)) else (if (if fro (lkd m tk s) 0 nL = none then nI 0 else nI 1) = bI ln then (if ogs m nC z o ≤ nI (gss m s nC (z s)) then f_X1_nextSeat_L10 fu M n (nI (o.getD 0)) (ogs m nC z o) (bI ln) (nI (s + 1)) else f_X1_nextSeat_L10 fu M n (nI s) (nI (gss m s nC (z s))) (if fro (lkd m tk s) 0 nL = none then nI 0 else nI 1) (nI (s + 1))) else f_X1_nextSeat_L10 fu M n (nI (o.getD 0)) (ogs m nC z o) (bI ln) (nI (s + 1))))) := by
        simp (disch := omega) only [f_X1_nextSeat_L10, hD.1.1, hS.1, lit, nI_add, pk_mul, pk_sub, nI_clamp, inb_nI, nI_leI, nI_ltI, nI_eq, add_m1, ↓reduceIte, grd_true, nm_d, jn_d, bd_some, bm_some, om_some, om_none, h4, et, elc, egc, c1]
      have take : ∀ b, (b = decide (fro (lkd m tk s) 0 nL ≠ none)) → ∃ o' : Option Nat, f_X1_nextSeat_L10 fu M n (nI s) (nI (gss m s nC (z s))) (bI b) (nI (s + 1)) = some (nI (o'.getD 0)) ∧ f_X11_nextSeat_L6 fu m n' (nI s) (bI b) (nI (s + 1)) = some (oI o') ∧ (∀ f, o' = some f → f < nS ∧ tk f = false) ∧ (o' = none → o = none ∧ ∀ j, s ≤ j → j < nS → tk j = true) := by
        intro b hb
        obtain ⟨o', g1, g2, g3, g4⟩ := ih (s + 1) n n' (some s) b (by omega) (by omega) (by omega) (fun h => by cases h) (fun f hf => by cases hf; exact ⟨by omega, ht⟩)
        exact ⟨o', g1, g2, g3, fun h => by have := (g4 h).1; cases this⟩
      have leave : ∀ b, o ≠ none → (b = ln) → ∃ o' : Option Nat, f_X1_nextSeat_L10 fu M n (nI (o.getD 0)) (ogs m nC z o) (bI ln) (nI (s + 1)) = some (nI (o'.getD 0)) ∧ f_X11_nextSeat_L6 fu m n' (oI o) (bI b) (nI (s + 1)) = some (oI o') ∧ (∀ f, o' = some f → f < nS ∧ tk f = false) ∧ (o' = none → o = none ∧ ∀ j, s ≤ j → j < nS → tk j = true) := by
        intro b ho' hb
        subst hb
        obtain ⟨o', g1, g2, g3, g4⟩ := ih (s + 1) n n' o b (by omega) (by omega) (by omega) ho hf
        exact ⟨o', g1, g2, g3, fun h => absurd (g4 h).1 ho'⟩
      rw [hC]
      cases o with
      | none =>
        have hln := ho rfl
        subst hln
        have hM : f_X11_nextSeat_L6 fu m (n' + 1) (oI none) (bI false) (nI s) = f_X11_nextSeat_L6 fu m n' (nI s) (if fro (lkd m tk s) 0 nL = none then nI 0 else nI 1) (nI (s + 1)) := by
          rw [e1]
          simp (disch := omega) only [f_X11_nextSeat_L6, hS.1, lit, nI_add, pk_mul, pk_sub, nI_clamp, inb_nI, nI_leI, nI_ltI, nI_eq, add_m1, ↓reduceIte, grd_true, nm_d, jn_d, bd_some, bm_some, om_some, om_none, h4, t42, el, c2, c3, i1]
          by_cases hl : fro (lkd m tk s) 0 nL = none
          · simp only [hl, ↓reduceIte]
          · simp only [hl, ↓reduceIte, i1]
        rw [hM]
        have hbig : ¬ ogs m nC z none ≤ nI (gss m s nC (z s)) := by
          simp only [ogs]
          rw [nI_leI (by omega) (by omega)]
          omega
        by_cases hl : fro (lkd m tk s) 0 nL = none
        · have := take false (by simp [hl])
          simp only [hl, e1, ↓reduceIte, hbig] at this ⊢
          exact this
        · have := take true (by simp [hl])
          have e2 : bI true = nI 1 := rfl
          simp only [hl, e1, e2, ↓reduceIte, i1] at this ⊢
          exact this
      | some f =>
        obtain ⟨hf1, hf2⟩ := hf f rfl
        obtain ⟨sf, w1, w2, w3, w4⟩ := hz f hf1
        have egf := guess_eq (fu := fu) hfu hG (show f < 3 by omega) w2 w1 w3 w4
        have hgf := gss_b (m := m) (i := f) (nC := nC) w4
        have c4 : ¬ nI f = -nI 1 := nI_nm1 (by omega)
        have hM : f_X11_nextSeat_L6 fu m (n' + 1) (oI (some f)) (bI ln) (nI s) = (if (if fro (lkd m tk s) 0 nL = none then nI 0 else nI 1) = nI 0 then (if (if fro (lkd m tk s) 0 nL = none then nI 0 else nI 1) = bI ln then (if nI (gss m f nC (z f)) ≤ nI (gss m s nC (z s)) then f_X11_nextSeat_L6 fu m n' (nI f) (if bI ln = nI 0 then (if (if fro (lkd m tk s) 0 nL = none then nI 0 else nI 1) = nI 0 then nI 0 else nI 1) else nI 1) (nI (s + 1)) else f_X11_nextSeat_L6 fu m n' (nI s) (if bI ln = nI 0 then (if (if fro (lkd m tk s) 0 nL = none then nI 0 else nI 1) = nI 0 then nI 0 else nI 1) else nI 1) (nI (s + 1))) else f_X11_nextSeat_L6 fu m n' (nI f) (if bI ln = nI 0 then (if (if fro (lkd m tk s) 0 nL = none then nI 0 else nI 1) = nI 0 then nI 0 else nI 1) else nI 1) (nI (s + 1))) else (if bI ln = nI 0 then f_X11_nextSeat_L6 fu m n' (nI s) (if bI ln = nI 0 then (if (if fro (lkd m tk s) 0 nL = none then nI 0 else nI 1) = nI 0 then nI 0 else nI 1) else nI 1) (nI (s + 1)) else (if (if fro (lkd m tk s) 0 nL = none then nI 0 else nI 1) = bI ln then (if nI (gss m f nC (z f)) ≤ nI (gss m s nC (z s)) then f_X11_nextSeat_L6 fu m n' (nI f) (if bI ln = nI 0 then (if (if fro (lkd m tk s) 0 nL = none then nI 0 else nI 1) = nI 0 then nI 0 else nI 1) else nI 1) (nI (s + 1)) else f_X11_nextSeat_L6 fu m n' (nI s) (if bI ln = nI 0 then (if (if fro (lkd m tk s) 0 nL = none then nI 0 else nI 1) = nI 0 then nI 0 else nI 1) else nI 1) (nI (s + 1))) else f_X11_nextSeat_L6 fu m n' (nI f) (if bI ln = nI 0 then (if (if fro (lkd m tk s) 0 nL = none then nI 0 else nI 1) = nI 0 then nI 0 else nI 1) else nI 1) (nI (s + 1))))) := by
          simp (disch := omega) only [f_X11_nextSeat_L6, show oI (some f) = nI f from rfl, hS.1, lit, nI_add, pk_mul, pk_sub, nI_clamp, inb_nI, nI_leI, nI_ltI, nI_eq, add_m1, ↓reduceIte, grd_true, nm_d, jn_d, bd_some, bm_some, om_some, om_none, h4, t42, el, c2, c4, i1, eg, egf, eq_self]
        rw [hM]
        have e2 : bI true = nI 1 := rfl
        by_cases hl : fro (lkd m tk s) 0 nL = none
        · cases ln with
          | false =>
            have h5 := take false (by simp [hl])
            have h6 := leave false (by simp) rfl
            simp only [hl, e1, ↓reduceIte, i1, i0, ogs, oI] at h5 h6 ⊢
            by_cases hle : nI (gss m f nC (z f)) ≤ nI (gss m s nC (z s))
            · rw [if_pos hle, if_pos hle]; exact h6
            · rw [if_neg hle, if_neg hle]; exact h5
          | true =>
            have h6 := leave true (by simp) rfl
            simp only [hl, e2, ↓reduceIte, i1, i0, ogs, oI] at h6 ⊢
            exact h6
        · cases ln with
          | false =>
            have h5 := take true (by simp [hl])
            simp only [hl, e1, e2, ↓reduceIte, i1, i0, ogs, oI] at h5 ⊢
            exact h5
          | true =>
            have h5 := take true (by simp [hl])
            have h6 := leave true (by simp) rfl
            simp only [hl, e2, ↓reduceIte, i1, i0, ogs, oI] at h5 h6 ⊢
            by_cases hle : nI (gss m f nC (z f)) ≤ nI (gss m s nC (z s))
            · rw [if_pos hle, if_pos hle]; exact h6
            · rw [if_neg hle, if_neg hle]; exact h5
theorem next2 (hfu : 5000 ≤ fu) (hD : DR M m) (hG : DG m nS nL nC nO) (hT : TK M m tk p) (h59 : M 59 = m 18) (hz : ZZ m nS z) {j : Nat} (hj : j < nS) (hjt : tk j = false) : ∃ f, f < nS ∧ tk f = false ∧ f_X1_nextSeat fu M = some (nI f) ∧ f_X11_nextSeat fu m = some (nI f) := by
  obtain ⟨o', g1, g2, g3, g4⟩ := nextL2 (fu := fu) hfu hD hG hT h59 hz nS 0 fu fu none false (by omega) (by have := hG.1.2; omega) (by have := hG.1.2; omega) (fun _ => rfl) (fun f hf => by cases hf)
  cases o' with
  | none => have := (g4 rfl).2 j (by omega) hj; rw [hjt] at this; cases this
  | some f => exact ⟨f, (g3 f rfl).1, (g3 f rfl).2, g1, g2⟩
end SeatN
