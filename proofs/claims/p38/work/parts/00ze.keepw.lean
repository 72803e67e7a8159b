/-! ===== what holds is kept; a seat is closed ===== -/
section KeepW
variable {fu nS nL nC nO i j s t u e p c a : Nat} {M m N n : Mem} {A : List Row} {r : Row} {tk : Nat → Bool}
theorem erase_mid {q : Row → Bool} {k : Nat} (hr : A[k]? = some r) : (A.take (k + 1) ++ (A.drop (k + 1)).filter q).eraseIdx k = A.take k ++ (A.drop (k + 1)).filter q := by
  have hl := gl_lt hr
  rw [List.eraseIdx_append_of_lt_length (by simp; omega)]
  congr 1
  rw [List.take_succ_eq_append_getElem hl, List.eraseIdx_append_of_length_le (by simp; omega)]
  simp
  omega
theorem filt_drop {q : Row → Bool} {k : Nat} (hr : A[k]? = some r) : (A.drop k).filter q = (if q r = true then [r] else []) ++ (A.drop (k + 1)).filter q := by
  have hl := gl_lt hr
  rw [List.getElem?_eq_getElem hl] at hr
  cases hr
  rw [List.drop_eq_getElem_cons hl, List.filter_cons]
  split <;> rfl
theorem keepWL (hfu : 5000 ≤ fu) (hD0 : DR M m) (hG : DG m nS nL nC nO) (hi : i < 3) (ha : 84 < a) (hok : okR A) : ∀ k n (N : Mem), k ≤ A.length → k < n → RC N (a + 5 + 1 + 3 * i) (A.take k ++ (A.drop k).filter (fun r => al (hA m i r) nC)) → (∀ x, x ≠ a + 5 + 1 + 3 * i → x ≠ a + 5 + 1 + 3 * i + 1 → x ≠ a + 5 + 1 + 3 * i + 2 → N x = M x) →
    ∃ P, f_X0_keepWhatHolds_L12 fu a (nI i) n (nI k + -nI 1) N = some P ∧ RC P (a + 5 + 1 + 3 * i) (A.filter (fun r => al (hA m i r) nC)) ∧ (∀ x, x ≠ a + 5 + 1 + 3 * i → x ≠ a + 5 + 1 + 3 * i + 1 → x ≠ a + 5 + 1 + 3 * i + 2 → P x = M x) := by
  intro k
  induction k with
  | zero =>
    intro n N h1 h2 hR hf
    obtain ⟨n, rfl⟩ := fu1 h2
    have : nI 0 + -nI 1 < (0 : Int32) := by decide
    refine ⟨N, by simp only [f_X0_keepWhatHolds_L12, this, ↓reduceIte], ?_, hf⟩
    simpa using hR
  | succ k ih =>
    intro n N h1 h2 hR hf
    obtain ⟨n, rfl⟩ := fu1 h2
    obtain ⟨r, hr⟩ := gl_some (R := A) (i := k) (by omega)
    have h12 := hR.2.1
    have hD : DR N m := hD0.cg (fun x h1 h2 => hf x (by omega) (by omega) (by omega)) .rfl
    have hlen : (A.take (k + 1) ++ (A.drop (k + 1)).filter (fun r => al (hA m i r) nC)).length = k + 1 + ((A.drop (k + 1)).filter (fun r => al (hA m i r) nC)).length := by simp; omega
    have hat : (A.take (k + 1) ++ (A.drop (k + 1)).filter (fun r => al (hA m i r) nC))[k]? = some r := by
      rw [List.getElem?_append_left (by simp; omega), List.getElem?_take_of_lt (by omega)]
      exact hr
    have hk12 : k < 12 := by rw [hlen] at h12; omega
    have eh := allHold_eq (fu := fu) hfu hD hG hi hR hat (hok r (List.mem_of_getElem? hr))
    have e9 : nI (k + 1) + -nI 1 = nI k := by rw [add_m1 (by omega)]; rfl
    have hfd := filt_drop (q := fun r => al (hA m i r) nC) hr
    rw [e9]
    simp (disch := omega) only [f_X0_keepWhatHolds_L12, lit, nI_add, pk_mul, pk_sub, nI_clamp, inb_nI, nI_leI, nI_ltI, nI_eq, add_m1, ↓reduceIte, grd_true, nm_d, jn_d, bd_some, bm_some, om_some, om_none, Nat.not_lt_zero, eh, bI_0]
    cases hh : al (hA m i r) nC with
    | true =>
      rw [if_neg (by decide)]
      refine ih n N (by omega) (by omega) ?_ hf
      rw [hfd, if_pos hh, ← List.append_assoc]
      have : A.take (k + 1) = A.take k ++ [r] := by
        have hl := gl_lt hr
        rw [List.take_succ_eq_append_getElem hl]
        rw [List.getElem?_eq_getElem hl] at hr
        cases hr
        rfl
      rw [← this]
      exact hR
    | false =>
      rw [if_pos rfl, dropPlace_eq hfu hR (by rw [hlen]; omega), bd_some]
      refine ih n _ (by omega) (by omega) ?_ (fun x x1 x2 x3 => by rw [delM_n ⟨x1, x2, x3⟩]; exact hf x x1 x2 x3)
      have h0 := delM_RC (p := k) hR (by rw [hlen]; omega)
      rw [erase_mid hr] at h0
      rw [hfd, if_neg (by rw [hh]; decide), List.nil_append]
      exact h0
theorem keepW_ok (hfu : 5000 ≤ fu) (hD : DR M m) (hG : DG m nS nL nC nO) (hi : i < 3) (ha : 84 < a) (hok : okR A) (hR : RC M (a + 5 + 1 + 3 * i) A) : ∃ P, f_X0_keepWhatHolds fu a (nI i) M = some P ∧ RC P (a + 5 + 1 + 3 * i) (A.filter (fun r => al (hA m i r) nC)) ∧ (∀ x, x ≠ a + 5 + 1 + 3 * i → x ≠ a + 5 + 1 + 3 * i + 1 → x ≠ a + 5 + 1 + 3 * i + 2 → P x = M x) := by
  have h12 := hR.2.1
  obtain ⟨P, g1, g2, g3⟩ := keepWL (fu := fu) hfu hD hG hi ha hok A.length fu M (Nat.le_refl _) (by omega) (by simpa using hR) (fun _ _ _ _ => rfl)
  have e2 : nI A.length - 1 = nI A.length + -nI 1 := Int32.sub_eq_add_neg _ _
  refine ⟨P, ?_, g2, g3⟩
  rw [← g1]
  simp (disch := omega) only [f_X0_keepWhatHolds, inb_nI, grd_true, nI_clamp, nm_d, hR.1, e2]
end KeepW
