/-! ===== a match is taken, without groups: both ===== -/
def ov (m : Mem) (R : Nat → Row) (o : Nat) : Int32 := cel (R (m 28 o).toNatClampNeg) (m 29 o).toNatClampNeg
def MS0 (M : Mem) (a0 : Nat) (m : Mem) (nO lim : Nat) : Prop := ∃ k, k ≤ lim ∧ M a0 5 = nI k ∧ m 0 68 = nI k ∧ ∀ x o, x < k → o < nO → M (a0 + 1) (3 * x + o) = m 52 (3 * x + o)
section Adds
variable {fu nS nL nC nO i j s t u e p c a0 k lim : Nat} {M m N n : Mem} {F : Nat → List Row} {r : Row} {R : Nat → Row}
theorem ov_get (hG : DG m nS nL nC nO) {o : Nat} (ho : o < nO) : ∃ a c, m 28 o = nI a ∧ m 29 o = nI c ∧ a < nS ∧ c < 4 ∧ ∀ R, ov m R o = cel (R a) c := by
  have hS3 := hG.1.2
  obtain ⟨a, c, h1, h2, h3, h4⟩ := hG.2.2.2.2.2.2.2.2.2 o ho
  refine ⟨a, c, h1, h2, h3, h4, fun R => ?_⟩
  simp only [ov, h1, h2]
  rw [nI_clamp (by omega), nI_clamp (by omega)]
theorem PC.cg (h : PC M a0 F j r) (h1 : ∀ x, x = a0 + 5 + 1 + 3 * j ∨ x = a0 + 5 + 1 + 3 * j + 1 ∨ x = a0 + 5 + 1 + 3 * j + 2 → N x = M x) (h2 : N (a0 + 2) j = M (a0 + 2) j) : PC N a0 F j r := by
  obtain ⟨g1, x, g2, g3⟩ := h
  exact ⟨g1.cg (by rw [h1 _ (Or.inl rfl)]) (h1 _ (Or.inr (Or.inl rfl))) (h1 _ (Or.inr (Or.inr rfl))), x, by rw [h2]; exact g2, g3⟩
theorem PM.cg (h : PM m F j r) (h1 : n 49 j = m 49 j) (h2 : n 50 = m 50) (h3 : n 51 j = m 51 j) : PM n F j r := by
  obtain ⟨g1, x, g2, g3⟩ := h
  exact ⟨g1.cg h1 (fun x _ => by rw [h2]), x, by rw [h3]; exact g2, g3⟩
theorem takeL {kk : Mem → Option Mem} (hD : DR M m) (hG : DG m nS nL nC nO) (ha : 89 < a0) (hk : k < 40) (hP : ∀ j, j < nS → PC M a0 F j (R j)) (h5 : M a0 5 = nI k) : ∀ d o n (f : Nat → Int32), o + d = nO → d < n → (∀ x, x < o → f (3 * k + x) = ov m R x) → (∀ x, x < 3 * k ∨ 3 * k + o ≤ x → f x = M (a0 + 1) x) →
    ∃ f' : Nat → Int32, f_X0_takeMatch_L66 fu a0 kk n (nI o) (row M (a0 + 1) f) = kk (row M (a0 + 1) f') ∧ (∀ x, x < nO → f' (3 * k + x) = ov m R x) ∧ (∀ x, x < 3 * k ∨ 3 * k + nO ≤ x → f' x = M (a0 + 1) x) := by
  have hS3 := hG.1.2
  have hO := hG.2.2.2.1
  intro d
  induction d with
  | zero =>
    intro o n f h1 h2 h3 h4
    obtain ⟨n, rfl⟩ := fu1 h2
    obtain rfl : o = nO := by omega
    refine ⟨f, ?_, h3, h4⟩
    simp (disch := omega) only [f_X0_takeMatch_L66, row_n, hD.1.2.2.2.1, hO.1, lit, nI_add, pk_mul, pk_sub, nI_clamp, inb_nI, nI_leI, nI_ltI, nI_eq, add_m1, ↓reduceIte, grd_true, nm_d, jn_d, bd_some, bm_some, om_some, om_none, Nat.le_refl]
  | succ d ih =>
    intro o n f h1 h2 h3 h4
    obtain ⟨n, rfl⟩ := fu1 h2
    have h6 : ¬ nO ≤ o := by omega
    obtain ⟨a, c, q1, q2, q3, q4, q5⟩ := ov_get hG (show o < nO by omega)
    have hPa : PC (row M (a0 + 1) f) a0 F a (R a) := (hP a q3).cg (fun x hx => by rw [row_n (by omega)]) (by rw [row_n (by omega)])
    have e := picked_eq (fu := fu) (c := c) (show a < 3 by omega) hPa q4
    obtain ⟨f', g1, g2, g3⟩ := ih (o + 1) n (upd f (3 * k + o) (ov m R o)) (by omega) (by omega) (fun x hx => by
      by_cases hxo : x = o
      · subst hxo; simp [upd]
      · simp only [upd]; rw [if_neg (by omega)]; exact h3 x (by omega)) (fun x hx => by simp only [upd]; rw [if_neg (by omega)]; exact h4 x (by omega))
    refine ⟨f', ?_, g2, g3⟩
    rw [← g1]
    simp (disch := omega) only [f_X0_takeMatch_L66, row_n, hD.1.2.2.2.1, hO.1, lit, nI_add, pk_mul, pk_sub, nI_clamp, inb_nI, nI_leI, nI_ltI, nI_eq, add_m1, ↓reduceIte, grd_true, nm_d, jn_d, bd_some, bm_some, om_some, om_none, h6, hD.2.1.2.2.2.2.2.1, hD.2.1.2.2.2.2.2.2, q1, q2, e, h5]
    rw [up_row, row_s, row_row, q5, Nat.mul_comm k 3]
theorem addsL {kk : Mem → Option Mem} (hG : DG m nS nL nC nO) (hk : k < lim) (hlim : lim ≤ 40) (hl37 : m 0 37 = nI lim) (hP : ∀ j, j < nS → PM m F j (R j)) (h68 : m 0 68 = nI k) : ∀ d o n (f : Nat → Int32), o + d = nO → d < n → (∀ x, x < o → f (3 * k + x) = ov m R x) → (∀ x, x < 3 * k ∨ 3 * k + o ≤ x → f x = m 52 x) →
    ∃ f' : Nat → Int32, f_X11_addsMatch_L2 fu kk n (nI o) (row m 52 f) = kk (row m 52 f') ∧ (∀ x, x < nO → f' (3 * k + x) = ov m R x) ∧ (∀ x, x < 3 * k ∨ 3 * k + nO ≤ x → f' x = m 52 x) := by
  have hS3 := hG.1.2
  have hO := hG.2.2.2.1
  intro d
  induction d with
  | zero =>
    intro o n f h1 h2 h3 h4
    obtain ⟨n, rfl⟩ := fu1 h2
    obtain rfl : o = nO := by omega
    refine ⟨f, ?_, h3, h4⟩
    simp (disch := omega) only [f_X11_addsMatch_L2, row_n, hO.1, lit, nI_add, pk_mul, pk_sub, nI_clamp, inb_nI, nI_leI, nI_ltI, nI_eq, add_m1, ↓reduceIte, grd_true, nm_d, jn_d, bd_some, bm_some, om_some, om_none, Nat.le_refl]
  | succ d ih =>
    intro o n f h1 h2 h3 h4
    obtain ⟨n, rfl⟩ := fu1 h2
    have h6 : ¬ nO ≤ o := by omega
    have h7 : ¬ lim ≤ k := by omega
    obtain ⟨a, c, q1, q2, q3, q4, q5⟩ := ov_get hG (show o < nO by omega)
    have hPa : PM (row m 52 f) F a (R a) := (hP a q3).cg (by rw [row_n (by omega)]) (by rw [row_n (by omega)]) (by rw [row_n (by omega)])
    have e := cellM_eq (fu := fu) (c := c) (show a < 3 by omega) hPa q4
    obtain ⟨f', g1, g2, g3⟩ := ih (o + 1) n (upd f (3 * k + o) (ov m R o)) (by omega) (by omega) (fun x hx => by
      by_cases hxo : x = o
      · subst hxo; simp [upd]
      · simp only [upd]; rw [if_neg (by omega)]; exact h3 x (by omega)) (fun x hx => by simp only [upd]; rw [if_neg (by omega)]; exact h4 x (by omega))
    refine ⟨f', ?_, g2, g3⟩
    rw [← g1]
    simp (disch := omega) only [f_X11_addsMatch_L2, row_n, hO.1, lit, nI_add, pk_mul, pk_sub, nI_clamp, inb_nI, nI_leI, nI_ltI, nI_eq, add_m1, ↓reduceIte, grd_true, nm_d, jn_d, bd_some, bm_some, om_some, om_none, h6, h7, q1, q2, e, h68, hl37]
    rw [up_row, row_s, row_row, q5]
/-- a match, no groups -/
theorem match0 (hfu : 5000 ≤ fu) (hD : DR M m) (hG : DG m nS nL nC nO) (ha : 89 < a0) (hlim : lim ≤ 40) (hl37 : m 0 37 = nI lim) (h38 : m 0 38 = 0) (hPC : ∀ j, j < nS → PC M a0 F j (R j)) (hPM : ∀ j, j < nS → PM m F j (R j)) (hS : MS0 M a0 m nO lim) : ∃ N n, f_X0_takeMatch fu a0 M = some N ∧ f_X11_addsMatch fu m = some n ∧ MS0 N a0 n nO lim ∧ (∀ a, a ≠ a0 → a ≠ a0 + 1 → N a = M a) ∧ (∀ j, j ≠ 5 → N a0 j = M a0 j) ∧ (∀ a, a ≠ 0 → a ≠ 52 → n a = m a) ∧ ∀ j, j ≠ 68 → n 0 j = m 0 j := by
  obtain ⟨k, k1, k2, k3, k4⟩ := hS
  have hO := hG.2.2.2.1
  have h14 : M 80 14 = 0 := by rw [hD.1.2.2.2.2.2]; exact h38
  have h13 : M 80 13 = nI lim := by rw [hD.1.2.2.2.2.1]; exact hl37
  by_cases hk : lim ≤ k
  · -- full
    have hkl : k = lim := by omega
    subst hkl
    have hle : nI k ≤ nI k := by rw [nI_leI (by omega) (by omega)]; exact Nat.le_refl _
    have eM : f_X11_addsMatch fu m = some m := by
      obtain ⟨f, rfl⟩ : ∃ f, fu = f + 1 := ⟨fu - 1, by omega⟩
      have e0 : up m 0 68 (nI k + 0) = m := up_self (by rw [k3]; exact (nI_add k 0).symm)
      have e1 : ∀ kk, f_X11_addsMatch_L2 (f + 1) kk (f + 1) 0 m = kk m := fun kk => by
        simp only [f_X11_addsMatch_L2, hl37, k3, hle, ↓reduceIte, ite_self]
      simp only [f_X11_addsMatch, jn_d, e1, nm_d, hl37, k3, hle, ↓reduceIte, e0]
    refine ⟨M, m, ?_, eM, ⟨k, Nat.le_refl _, k2, k3, k4⟩, fun _ _ _ => rfl, fun _ _ => rfl, fun _ _ _ => rfl, fun _ _ => rfl⟩
    simp only [f_X0_takeMatch, h14, h13, k2, hle, ↓reduceIte]
  · have hnle : ¬ nI lim ≤ nI k := by rw [nI_leI (by omega) (by omega)]; exact hk
    obtain ⟨f1, g1, g2, g3⟩ := takeL (fu := fu) (k := k) (kk := fun (M_4 : Mem) => nm (up M_4 a0 5 ((M_4 a0 5) + 1)) (fun M_5 => some M_5)) hD hG ha (by omega) hPC k2 nO 0 fu (M (a0 + 1)) (by omega) (by omega) (fun x hx => by omega) (fun x _ => rfl)
    obtain ⟨f2, v1, v2, v3⟩ := addsL (fu := fu) (k := k) (kk := fun (M_2 : Mem) => nm ((if (M_2 0 37) ≤ (M_2 0 68) then 0 else 1) : Int32) (fun v_4 => nm (up M_2 0 68 ((M_2 0 68) + v_4)) (fun M_5 => some M_5))) hG (by omega) hlim hl37 hPM k3 nO 0 fu (m 52) (by omega) (by omega) (fun x hx => by omega) (fun x _ => rfl)
    rw [row_self] at g1 v1
    refine ⟨up (row M (a0 + 1) f1) a0 5 (nI (k + 1)), up (row m 52 f2) 0 68 (nI (k + 1)), ?_, ?_, ⟨k + 1, by omega, up_s, up_s, fun x o hx ho => ?_⟩, fun a z1 z2 => by rw [up_n z1, row_n z2], fun j hj => by rw [up_m hj, row_n (by omega)], fun a z1 z2 => by rw [up_n z1, row_n z2], fun j hj => by rw [up_m hj, row_n (by omega)]⟩
    · have : f_X0_takeMatch fu a0 M = f_X0_takeMatch_L66 fu a0 (fun (M_4 : Mem) => nm (up M_4 a0 5 ((M_4 a0 5) + 1)) (fun M_5 => some M_5)) fu (nI 0) M := by
        simp only [f_X0_takeMatch, h14, h13, k2, hnle, ↓reduceIte, jn_d]
        rfl
      rw [this, g1, nm_d, row_n (by omega), k2, nI_1]
    · have : f_X11_addsMatch fu m = f_X11_addsMatch_L2 fu (fun (M_2 : Mem) => nm ((if (M_2 0 37) ≤ (M_2 0 68) then 0 else 1) : Int32) (fun v_4 => nm (up M_2 0 68 ((M_2 0 68) + v_4)) (fun M_5 => some M_5))) fu (nI 0) m := rfl
      rw [this, v1, row_n (by omega), hl37, k3, if_neg hnle, nm_d, nI_1, nm_d]
    · rw [up_n (by omega), row_s, up_n (by omega), row_s]
      by_cases hxk : x = k
      · subst hxk
        rw [g2 o ho, v2 o ho]
      · rw [g3 _ (by omega), v3 _ (by omega)]
        exact k4 x o (by omega) ho
end Adds
