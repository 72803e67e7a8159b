/-! ===== rows laid, lifted, set ===== -/
section LLay
variable {fu s s' a0 a1 l0 l1 : Nat} {M N : Mem} {R R' : List Row} {r : Row} {m v : Int32}
theorem layL {k57 : Int32 → Mem → Option Mem} (hs : s < 6) (hl0 : 10 * s + 10 ≤ l0) (hl1 : l0 < 2 ^ 20) (h : RWa M a0 a1 s R) (hk : okW R) (hR : R.length < 10) (hm : okm r.1) (hr : ∀ c, c < 4 → okc (cel r c)) : ∀ k n (N : Mem), k ≤ R.length → k < n → (∀ a, a ≠ a0 → N a = M a) → (∀ j, lg (N a0) j = if 10 * s + k + 1 ≤ j ∧ j < 10 * s + R.length + 1 then lg (M a0) (j - 1) else lg (M a0) j) →
    ∃ N', f_L_lay_L5 fu a0 l0 (nI s) (pk r) k57 n (nI k) N = k57 (nI (pl (mkf R) r.1 k)) N' ∧ (∀ a, a ≠ a0 → N' a = M a) ∧ ∀ j, lg (N' a0) j = if 10 * s + pl (mkf R) r.1 k + 1 ≤ j ∧ j < 10 * s + R.length + 1 then lg (M a0) (j - 1) else lg (M a0) j := by
  intro k
  induction k with
  | zero =>
    intro n N h1 h2 h3 h4
    obtain ⟨n, rfl⟩ := fu1 h2
    refine ⟨N, ?_, h3, h4⟩
    simp only [f_L_lay_L5, pl]
    rw [if_pos (show nI 0 ≤ 0 by decide)]
  | succ k ih =>
    intro n N h1 h2 h3 h4
    obtain ⟨n, rfl⟩ := fu1 h2
    obtain ⟨q, hq⟩ := gl_some (R := R) (i := k) (by omega)
    have e1 : lg (N a0) (10 * s + k) = lg (M a0) (10 * s + k) := by rw [h4, if_neg (by omega)]
    have e2 := markL h hk hq
    have e3 : ¬ nI (k + 1) ≤ 0 := fun z => by
      have : nI (k + 1) ≤ nI 0 := z
      rw [nI_leI (by omega) (by omega)] at this
      omega
    have e4 : (10 : Int32) * nI s + nI (k + 1) - 1 = nI (10 * s + k) := by
      rw [show (10 : Int32) = nI 10 from rfl, show (1 : Int32) = nI 1 from rfl, pk_mul, nI_add, pk_sub (by omega)]
      congr 1
    have e5 : (10 : Int32) * nI s + nI (k + 1) = nI (10 * s + (k + 1)) := by
      rw [show (10 : Int32) = nI 10 from rfl, pk_mul, nI_add]
    have e6 : nI (k + 1) + (-1) = nI k := pk_m1 k
    simp (disch := omega) only [f_L_lay_L5, e3, if_false, e4, inb_nI, grd_true, nI_clamp, e1, e2, mark_pk hm hr, pl, mkf_at hq]
    by_cases hle : q.1 ≤ r.1
    · simp only [hle, if_true]
      exact ⟨N, rfl, h3, h4⟩
    · simp (disch := omega) only [hle, if_false, e5, inb_nI, grd_true, nI_clamp, nm_d, e6]
      refine ih n _ (by omega) (by omega) (fun a ha => by rw [upL_n ha, h3 a ha]) (fun j => ?_)
      by_cases hj : j = 10 * s + (k + 1)
      · subst hj
        rw [upL_s, if_pos (by omega)]
        congr 1
      · rw [upL_m hj, h4]
        by_cases h7 : 10 * s + (k + 1) + 1 ≤ j ∧ j < 10 * s + R.length + 1
        · rw [if_pos h7, if_pos (by omega)]
        · rw [if_neg h7, if_neg (by omega)]
theorem lay_ok (hfu : 5000 ≤ fu) (hs : s < 6) (hl0 : 10 * s + 10 ≤ l0) (hl1 : l0 < 2 ^ 20) (hl2 : s < l1) (hl3 : l1 < 2 ^ 20) (ha : a0 ≠ a1) (h : RWa M a0 a1 s R) (hk : okW R) (hR : R.length < 10) (hm : okm r.1) (hr : ∀ c, c < 4 → okc (cel r c)) : ∃ N, f_L_lay fu a0 l0 a1 l1 (nI s) (pk r) M = some N ∧ insW M a0 a1 s R r N := by
  have hq := pl_le (f := mkf R) (m := r.1) (n := R.length)
  obtain ⟨N', e, h1, h2⟩ := layL (k57 := fun (x5_4 : Int32) (M_5 : Mem) => grd (inb ((10 * nI s) + x5_4) l0) (nm (upL M_5 a0 ((10 * nI s) + x5_4).toNatClampNeg (pk r)) (fun M_7 => nm (up M_7 a1 (nI s).toNatClampNeg ((M_7 a1 (nI s).toNatClampNeg) + 1)) (fun M_8 => some M_8)))) (fu := fu) hs hl0 hl1 h hk hR hm hr R.length fu M (Nat.le_refl _) (by omega) (fun _ _ => rfl) (fun j => by rw [if_neg (by omega)])
  have e5 : (10 : Int32) * nI s + nI (pl (mkf R) r.1 R.length) = nI (10 * s + pl (mkf R) r.1 R.length) := by
    rw [show (10 : Int32) = nI 10 from rfl, pk_mul, nI_add]
  have h1s : N' a1 s = nI R.length := by rw [h1 a1 (Ne.symm ha)]; exact h.1
  refine ⟨up (upL N' a0 (10 * s + pl (mkf R) r.1 R.length) (pk r)) a1 s (nI (R.length + 1)), ?_, ⟨?_, ?_, ?_⟩, ?_, ?_, ?_⟩
  · simp (disch := omega) only [nm_d, nI_clamp, upL_n (Ne.symm ha)] at e
    simp (disch := omega) only [f_L_lay, inb_nI, grd_true, nm_d, nI_clamp, jn_d, h.1, upL_n (Ne.symm ha)]
    rw [e]
    simp (disch := omega) only [e5, inb_nI, grd_true, nI_clamp, h1s, nI_1]
  · rw [up_s, insR_len]
  · rw [insR_len]; omega
  · intro i r' hr'
    rw [up_n ha]
    simp only [insR] at hr'
    rw [List.getElem?_insertIdx] at hr'
    by_cases h3 : i < pl (mkf R) r.1 R.length
    · rw [if_pos h3] at hr'
      rw [upL_m (by omega), h2, if_neg (by omega)]
      exact h.2.2 i r' hr'
    · rw [if_neg h3] at hr'
      by_cases h4 : i = pl (mkf R) r.1 R.length
      · rw [if_pos h4, if_pos (by omega)] at hr'
        cases hr'
        rw [h4, upL_s]
      · rw [if_neg h4] at hr'
        have hi := gl_lt hr'
        rw [upL_m (by omega), h2, if_pos (by omega), show 10 * s + i - 1 = 10 * s + (i - 1) by omega]
        exact h.2.2 (i - 1) r' hr'
  · intro a h3 h4
    rw [up_n h4, upL_n h3, h1 a h3]
  · intro j hj
    rw [up_m hj, upL_n (Ne.symm ha), h1 a1 (Ne.symm ha)]
  · intro j hj
    rw [up_n ha, upL_m (by omega), h2, if_neg (by omega)]
theorem insW.n (h : insW M a0 a1 s R r N) {a : Nat} (h1 : a ≠ a0) (h2 : a ≠ a1) : N a = M a := h.2.1 a h1 h2
theorem insW.o (h : insW M a0 a1 s R r N) (hs : s' ≠ s) (h1 : RWa M a0 a1 s' R') : RWa N a0 a1 s' R' := h1.cg (h.2.2.1 s' hs) (fun i hi => h.2.2.2 _ (by omega))
theorem ins_okW (hk : okW R) (hm : okm r.1) (hr : ∀ c, c < 4 → okc (cel r c)) : okW (insR R r) := fun r' h => by
  rcases mem_ins h with rfl | h
  · exact ⟨hm, hr⟩
  · exact hk r' h
/-! a row is lifted -/
theorem liftL {p : Nat} (hs : s < 6) (hl : R.length ≤ 10) : ∀ d k n (N : Mem), k + d = R.length - 1 → d < n → p ≤ k → N 143 s = nI (R.length - 1) → (∀ a, a ≠ 142 → N a = M a) → (∀ j, lg (N 142) j = if 10 * s + p ≤ j ∧ j < 10 * s + k then lg (M 142) (j + 1) else lg (M 142) j) →
    ∃ N', f_L_lift_L10 fu (nI s) n (nI k) N = some N' ∧ (∀ a, a ≠ 142 → N' a = M a) ∧ ∀ j, lg (N' 142) j = if 10 * s + p ≤ j ∧ j < 10 * s + (R.length - 1) then lg (M 142) (j + 1) else lg (M 142) j := by
  intro d
  induction d with
  | zero =>
    intro k n N h1 h2 h3 h0 h4 h5
    obtain ⟨n, rfl⟩ := fu1 h2
    have hk : R.length - 1 ≤ k := by omega
    refine ⟨N, ?_, h4, fun j => ?_⟩
    · simp (disch := omega) only [f_L_lift_L10, inb_nI, grd_true, nI_clamp, h0, nI_leI, hk, if_true]
    · rw [h5, show k = R.length - 1 by omega]
  | succ d ih =>
    intro k n N h1 h2 h3 h0 h4 h5
    obtain ⟨n, rfl⟩ := fu1 h2
    have hk : ¬ R.length - 1 ≤ k := by omega
    have e4 : (10 : Int32) * nI s + nI k + 1 = nI (10 * s + k + 1) := by
      rw [show (10 : Int32) = nI 10 from rfl, show (1 : Int32) = nI 1 from rfl, pk_mul, nI_add, nI_add]
    have e5 : (10 : Int32) * nI s + nI k = nI (10 * s + k) := by
      rw [show (10 : Int32) = nI 10 from rfl, pk_mul, nI_add]
    simp (disch := omega) only [f_L_lift_L10, inb_nI, grd_true, nI_clamp, h0, nI_leI, hk, if_false, e4, e5, nm_d, nI_1]
    refine ih (k + 1) n _ (by omega) (by omega) (by omega) (by rw [upL_n (by omega)]; exact h0) (fun a ha => by rw [upL_n ha, h4 a ha]) (fun j => ?_)
    by_cases hj : j = 10 * s + k
    · subst hj
      rw [upL_s, if_pos (by omega), h5, if_neg (by omega)]
    · rw [upL_m hj, h5]
      by_cases h7 : 10 * s + p ≤ j ∧ j < 10 * s + k
      · rw [if_pos h7, if_pos (by omega)]
      · rw [if_neg h7, if_neg (by omega)]
def delW (M : Mem) (s : Nat) (R : List Row) (p : Nat) (N : Mem) : Prop := RWl N s (R.eraseIdx p) ∧ (∀ a, a ≠ 142 → a ≠ 143 → N a = M a) ∧ (∀ j, j ≠ s → N 143 j = M 143 j) ∧ ∀ j, (j < 10 * s ∨ 10 * s + 10 ≤ j) → lg (N 142) j = lg (M 142) j
theorem lift_ok {p : Nat} (hfu : 5000 ≤ fu) (hs : s < 6) (h : RWl M s R) (hp : p < R.length) : ∃ N, f_L_lift fu (nI s) (nI p) M = some N ∧ delW M s R p N := by
  have hl := h.2.1
  obtain ⟨N', e, h1, h2⟩ := liftL (fu := fu) (M := up M 143 s (nI (R.length - 1))) (R := R) (p := p) hs hl (R.length - 1 - p) p fu (up M 143 s (nI (R.length - 1))) (by omega) (by omega) (Nat.le_refl _) up_s (fun _ _ => rfl) (fun j => by rw [if_neg (by omega)])
  have hle : (R.eraseIdx p).length = R.length - 1 := by rw [List.length_eraseIdx, if_pos hp]
  have h142 : up M 143 s (nI (R.length - 1)) 142 = M 142 := up_n (by omega)
  refine ⟨N', ?_, ⟨?_, by omega, ?_⟩, ?_, ?_, ?_⟩
  · simp (disch := omega) only [f_L_lift, inb_nI, grd_true, nI_clamp, nm_d, h.1, show (1 : Int32) = nI 1 from rfl, pk_sub]
    exact e
  · rw [h1 143 (by omega), up_s, hle]
  · intro i r' hr'
    rw [List.getElem?_eraseIdx] at hr'
    rw [h2, h142]
    by_cases h3 : i < p
    · rw [if_pos h3] at hr'
      rw [if_neg (by omega)]
      exact h.2.2 i r' hr'
    · rw [if_neg h3] at hr'
      have hi := gl_lt hr'
      rw [if_pos (by omega)]
      exact h.2.2 (i + 1) r' hr'
  · intro a h3 h4
    rw [h1 a h3, up_n h4]
  · intro j hj
    rw [h1 143 (by omega), up_m hj]
  · intro j hj
    rw [h2, h142, if_neg (by omega)]
theorem delW.o {p : Nat} (h : delW M s R p N) (hs : s' ≠ s) (h1 : RWl M s' R') : RWl N s' R' := h1.cg (h.2.2.1 s' hs) (fun i hi => h.2.2.2 _ (by omega))
theorem del_okW {p : Nat} (hk : okW R) : okW (R.eraseIdx p) := fun r' h => hk r' (List.mem_of_mem_eraseIdx h)
/-! a cell is set -/
theorem set_ok {p c : Nat} (h : RWl M s R) (hk : okW R) (hp : R[p]? = some r) (hc : c < 4) (hv : okc v) : f_L_with (lg (M 142) (10 * s + p)) (nI c) v = pk (setc r c v) ∧ RWl (upL M 142 (10 * s + p) (pk (setc r c v))) s (R.set p (setc r c v)) := by
  have hl := gl_lt hp
  refine ⟨?_, ⟨?_, by rw [List.length_set]; exact h.2.1, fun i r' hr' => ?_⟩⟩
  · rw [h.2.2 p r hp]
    exact with_pk (hk.at hp).1 (hk.at hp).2 hc hv
  · rw [upL_n (by omega), List.length_set]; exact h.1
  · rw [List.getElem?_set] at hr'
    by_cases hi : p = i
    · rw [if_pos hi, if_pos hl] at hr'
      cases hr'
      rw [← hi, upL_s]
    · rw [if_neg hi] at hr'
      rw [upL_m (by omega)]
      exact h.2.2 i r' hr'
theorem set_o {p : Nat} {x : Int64} (hs : s' ≠ s) (hp : p < 10) (h : RWl M s' R') : RWl (upL M 142 (10 * s + p) x) s' R' := h.cg (by rw [upL_n (by omega)]) (fun i hi => upL_m (by omega))
theorem set_okW {p c : Nat} (hk : okW R) (hp : R[p]? = some r) (hv : okc v) : okW (R.set p (setc r c v)) := fun r' h => by
  obtain ⟨i, hi⟩ := List.mem_iff_getElem?.mp h
  rw [List.getElem?_set] at hi
  by_cases hj : p = i
  · rw [if_pos hj] at hi
    split at hi
    · cases hi
      refine ⟨(hk.at hp).1, fun k hk4 => ?_⟩
      simp only [cel, setc]
      have := (hk.at hp).2
      split
      · split
        · exact hv
        · exact this 0 (by omega)
      · split
        · split
          · exact hv
          · exact this 1 (by omega)
        · split
          · split
            · exact hv
            · exact this 2 (by omega)
          · split
            · exact hv
            · exact this 3 (by omega)
    · cases hi
  · rw [if_neg hj] at hi
    exact hk.at hi
end LLay
