/-! ===== calls: of nothing but the mark; with a change ===== -/
section Calls
variable {fu t u t1 u1 k0 : Nat} {M m N n M1 : Mem} {w v : Int32} {km : Nat → Nat} {f : Option XR} {g : Option (Int32 × Mem)} {cs : List Nat}
/-- the class is called, the law's arrays stand as they are to be then -/
theorem rCall (hL : LR M1 n t1 u1) (hO : OUT km t u f g) (hg : g = some (w, n)) (hk0 : n 0 0 = nI (km k0)) (hinj : ∀ k, k ≤ 3 → km k ≤ 3 → (km k = 0 → k = 0) → km k = km k0 → k = k0) (h3 : km k0 ≤ 3) (hcs : k0 = 0 ∨ k0 ∈ cs) (ht : t < 2 ^ 29) (ht1 : t1 < 2 ^ 30) (hu : u < 2 ^ 29) : ∃ M', wr cs f M1 = some (if k0 = 0 then w else ek k0, M') ∧ INV M' n t1 u1 ∧ ∀ a, 142 ≤ a → M' a = M1 a := by
  obtain ⟨N, t', u', a1, a2, a3, a4, a5, a6⟩ := hO.cl (M1 := M1) (cs := cs) hg hk0 hinj h3 hcs
  exact ⟨mg M1 N, a1, INV.mk' hL a2 ht1 (by omega) (by omega), fun a ha => mg_l ha⟩
theorem rCallz (hL : LR M1 n t1 u1) (hO : OUT km t u f g) (hg : g = some (w, n)) (hk0 : n 0 0 = nI (km k0)) (hinj : ∀ k, k ≤ 3 → km k ≤ 3 → (km k = 0 → k = 0) → km k = km k0 → k = k0) (h3 : km k0 ≤ 3) (hcs : k0 = 0 ∨ k0 ∈ cs) (ht : t < 2 ^ 29) (ht1 : t1 < 2 ^ 30) (hu : u < 2 ^ 29) : ∃ M', wrz cs f M1 = some (if k0 = 0 then (if w = 0 then 0 else 1) else ek k0, M') ∧ INV M' n t1 u1 ∧ ∀ a, 142 ≤ a → M' a = M1 a := by
  obtain ⟨N, t', u', a1, a2, a3, a4, a5, a6⟩ := hO.clz (M1 := M1) (cs := cs) hg hk0 hinj h3 hcs
  exact ⟨mg M1 N, a1, INV.mk' hL a2 ht1 (by omega) (by omega), fun a ha => mg_l ha⟩
theorem eCall (hI : INV M m t u) (hO : OUT km t u f g) (hg : g = some (w, n)) (hE : EQ0 n m) (hk0 : n 0 0 = nI (km k0)) (hinj : ∀ k, k ≤ 3 → km k ≤ 3 → (km k = 0 → k = 0) → km k = km k0 → k = k0) (h3 : km k0 ≤ 3) (hcs : k0 = 0 ∨ k0 ∈ cs) (ht : t < 2 ^ 29) : ∃ M', wr cs f M = some (if k0 = 0 then w else ek k0, M') ∧ INV M' n t u ∧ ∀ a, 142 ≤ a → M' a = M a :=
  rCall (hI.1.cg (fun _ _ _ => rfl) hE hI.2.e3c) hO hg hk0 hinj h3 hcs ht (by omega) (by have := hI.1.tt.2.2.2; omega)
theorem eCallz (hI : INV M m t u) (hO : OUT km t u f g) (hg : g = some (w, n)) (hE : EQ0 n m) (hk0 : n 0 0 = nI (km k0)) (hinj : ∀ k, k ≤ 3 → km k ≤ 3 → (km k = 0 → k = 0) → km k = km k0 → k = k0) (h3 : km k0 ≤ 3) (hcs : k0 = 0 ∨ k0 ∈ cs) (ht : t < 2 ^ 29) : ∃ M', wrz cs f M = some (if k0 = 0 then (if w = 0 then 0 else 1) else ek k0, M') ∧ INV M' n t u ∧ ∀ a, 142 ≤ a → M' a = M a :=
  rCallz (hI.1.cg (fun _ _ _ => rfl) hE hI.2.e3c) hO hg hk0 hinj h3 hcs ht (by omega) (by have := hI.1.tt.2.2.2; omega)
end Calls
/-! ===== a question, whole ===== -/
def asB (fu : Nat) (v_2 v_4 : Int32) (M : Mem) : Option (Int32 × Mem) := bm (f_L_ask fu 201 0 M) (fun r_6 M_7 => (if r_6 = (-7200) then bm (f_L_ask fu 0 201 M_7) (fun r_10 M_11 => (if r_10 = (-7200) then bm (f_L_ask fu (-1) 0 M_11) (fun r_14 M_15 => (if r_14 = (-7200) then (if (M_15 146 0) = 0 ∨ (M_15 146 3) = 0 then bm (f_L_ask fu v_2 v_4 M_15) (fun r_19 M_20 => (if r_19 = (-7300) then bm (f_L_answersAnew fu M_20) (fun r_23 M_24 => (if r_23 = (-7300) then bm (f_L_answerAnew fu 0 0 M_24) (fun r_27 M_28 => (if r_27 = (-7300) then some ((1 : Int32), M_28) else some ((0 : Int32), M_28))) else some ((0 : Int32), M_24))) else some ((0 : Int32), M_20))) else asMain fu v_2 v_4 M_15) else some ((0 : Int32), M_15))) else some ((0 : Int32), M_11))) else some ((0 : Int32), M_7)))
section Asks3L
variable {fu t u i j s x fr dl nS nL nC nO : Nat} {M m N n : Mem} {od : Nat → Nat} {p1 p2 : Int32}
theorem asSplit : ∃ fr dl, fr ≤ 200 ∧ dl ≤ 200 ∧ f_L_asks fu p1 p2 M = asB fu (nI fr) (nI dl) M := by
  have hor : ∀ (x y : Int32) (a b : Option (Int32 × Mem)), (if x = 0 then a else if y = 0 then a else b) = if x = 0 ∨ y = 0 then a else b := fun x y a b => by
    by_cases h1 : x = 0 <;> by_cases h2 : y = 0 <;> simp [h1, h2]
  have body : ∀ v2 v4 : Int32, (bm (f_L_ask fu 201 0 M) (fun r_6 M_7 => (if r_6 = (-7200) then bm (f_L_ask fu 0 201 M_7) (fun r_10 M_11 => (if r_10 = (-7200) then bm (f_L_ask fu (-1) 0 M_11) (fun r_14 M_15 => (if r_14 = (-7200) then (if (M_15 146 0) = 0 then bm (f_L_ask fu v2 v4 M_15) (fun r_19 M_20 => (if r_19 = (-7300) then bm (f_L_answersAnew fu M_20) (fun r_23 M_24 => (if r_23 = (-7300) then bm (f_L_answerAnew fu 0 0 M_24) (fun r_27 M_28 => (if r_27 = (-7300) then some ((1 : Int32), M_28) else some ((0 : Int32), M_28))) else some ((0 : Int32), M_24))) else some ((0 : Int32), M_20))) else if (M_15 146 3) = 0 then bm (f_L_ask fu v2 v4 M_15) (fun r_19 M_20 => (if r_19 = (-7300) then bm (f_L_answersAnew fu M_20) (fun r_23 M_24 => (if r_23 = (-7300) then bm (f_L_answerAnew fu 0 0 M_24) (fun r_27 M_28 => (if r_27 = (-7300) then some ((1 : Int32), M_28) else some ((0 : Int32), M_28))) else some ((0 : Int32), M_24))) else some ((0 : Int32), M_20))) else asMain fu v2 v4 M_15) else some ((0 : Int32), M_15))) else some ((0 : Int32), M_11))) else some ((0 : Int32), M_7)))) = asB fu v2 v4 M := fun v2 v4 => by
    unfold asB
    simp only [hor]
  have z1 : ∃ fr, fr ≤ 200 ∧ ∀ k : Int32 → Option (Int32 × Mem), (if (p1 &&& 6) = 0 then k 0 else nm ((if (p1 &&& 768) = 0 then 201 else 40) : Int32) (fun v_140 => bd (f_L_low fu (p1 >>> (3 &&& 31)) v_140 M) (fun r_142 => k r_142))) = k (nI fr) := by
    by_cases h1 : (p1 &&& 6) = 0
    · exact ⟨0, by omega, fun k => by rw [if_pos h1]; rfl⟩
    · by_cases h2 : (p1 &&& 768) = 0
      · obtain ⟨q, q1, q2⟩ := low_eq (fu := fu) (v := p1 >>> (3 &&& 31)) (n := 201) (M := M) (by omega) (by omega)
        exact ⟨q, by omega, fun k => by rw [if_neg h1, if_pos h2, nm_d, show (201 : Int32) = nI 201 from rfl, q2, bd_some]⟩
      · obtain ⟨q, q1, q2⟩ := low_eq (fu := fu) (v := p1 >>> (3 &&& 31)) (n := 40) (M := M) (by omega) (by omega)
        exact ⟨q, by omega, fun k => by rw [if_neg h1, if_neg h2, nm_d, show (40 : Int32) = nI 40 from rfl, q2, bd_some]⟩
  have z2 : ∃ dl, dl ≤ 200 ∧ ∀ k : Int32 → Option (Int32 × Mem), (if (p2 &&& 6) ≤ 0 then bd (f_L_low fu (p2 >>> (3 &&& 31)) 12 M) (fun r_137 => k r_137) else k 200) = k (nI dl) := by
    by_cases h1 : (p2 &&& 6) ≤ 0
    · obtain ⟨q, q1, q2⟩ := low_eq (fu := fu) (v := p2 >>> (3 &&& 31)) (n := 12) (M := M) (by omega) (by omega)
      exact ⟨q, by omega, fun k => by rw [if_pos h1, show (12 : Int32) = nI 12 from rfl, q2, bd_some]⟩
    · exact ⟨200, by omega, fun k => by rw [if_neg h1]; rfl⟩
  obtain ⟨fr, f1, f2⟩ := z1
  obtain ⟨dl, g1, g2⟩ := z2
  refine ⟨fr, dl, f1, g1, ?_⟩
  rw [← body]
  refine (f2 _).trans ?_
  rw [jn_d]
  exact g2 _
theorem xask1 {a b : Int32} (h : a < 0 ∨ 200 < a) : f_X11_ask fu a b m = some (0, up m 0 0 1) := by
  simp only [f_X11_ask, nm_d, jn_d, in0, h, if_true, up_s]
  rfl
theorem xask2 {a b : Int32} (h0 : ¬ (a < 0 ∨ 200 < a)) (h : b < 0 ∨ 200 < b) : f_X11_ask fu a b m = some (0, up m 0 0 1) := by
  simp only [f_X11_ask, nm_d, jn_d, in0, h0, h, if_true, if_false, up_s]
  rfl
theorem asErr {a b : Int32} (hfu : 5000 ≤ fu) (hI : INV M m t u) (ht : t < 2 ^ 28 - 2) (h : (a < 0 ∨ 200 < a) ∨ (¬ (a < 0 ∨ 200 < a) ∧ (b < 0 ∨ 200 < b))) : ∃ M', f_L_ask fu a b M = some (-7200, M') ∧ INV M' (up m 0 0 1) t u ∧ ∀ x, 142 ≤ x → M' x = M x := by
  have hg : f_X11_ask fu a b m = some (0, up m 0 0 1) := by
    rcases h with h | ⟨h0, h⟩
    · exact xask1 h
    · exact xask2 h0 h
  exact eCall (k0 := 2) hI (ask_call hfu hI.2 ht (by have := hI.1.tt.2.2.2; omega)) hg .up0 (by rw [up_s]; rfl) (by decide) (by decide) (by decide) (by omega)
theorem ordN_at (h : ∀ x, x < nS → od x < 3) (hS3 : nS ≤ 3) (hx : x < nS) : ordN od nS / 4 ^ x % 4 = od x ∧ ordN od nS < 64 := by
  have h4 : nS = 1 ∨ nS = 2 ∨ nS = 3 := by omega
  have h0 := h 0
  have h1 := h 1
  have h2 := h 2
  have hx3 : x = 0 ∨ x = 1 ∨ x = 2 := by omega
  rcases h4 with rfl | rfl | rfl
  · have := h0 (by omega)
    have hxx : x = 0 := by omega
    subst hxx
    simp [ordN]; omega
  · have := h0 (by omega)
    have := h1 (by omega)
    rcases hx3 with rfl | rfl | rfl
    · simp [ordN]; omega
    · simp [ordN]; omega
    · omega
  · have := h0 (by omega)
    have := h1 (by omega)
    have := h2 (by omega)
    rcases hx3 with rfl | rfl | rfl
    · simp [ordN]; omega
    · simp [ordN]; omega
    · simp [ordN]; omega
theorem ord_sh : ∀ (v : Fin 64) (x : Fin 3), (nI v >>> ((2 * nI x) &&& 31)) &&& 3 = nI (v / 4 ^ x.val % 4) := by decide +kernel
theorem xtaken (hx : x < nS) (hS : nS ≤ 3) (h : m 0 83 = nI nS) : f_X11_taken fu (nI x) m = some (m 57 x, up m 0 0 0) := by
  have h1 : nI nS - 1 = nI (nS - 1) := by
    obtain ⟨y, rfl⟩ : ∃ y, nS = y + 1 := ⟨nS - 1, by omega⟩
    exact nI_pred y
  have h2 : ¬ (nI x < 0 ∨ nI (nS - 1) < nI x) := by
    rintro (z | z)
    · exact nI_pos (by omega) z
    · exact nI_nlt (by omega) (by omega) z
  simp only [f_X11_taken, h, h1, in0, h2, if_false, nm_d, up_s, Int32.le_refl, if_true]
  rw [inb_nI (by omega) (by omega), grd_true, nI_clamp (by omega), up_n (by omega)]
theorem xtakenE {a : Int32} (h : a < 0 ∨ m 0 83 - 1 < a) : f_X11_taken fu a m = some (0, up m 0 0 1) := by
  simp only [f_X11_taken, in0, h, if_true, nm_d, up_s]
  rfl
theorem asTk {kE : Mem → Option (Int32 × Mem)} (ht : t < 2 ^ 29) (hS3 : nS ≤ 3) : ∀ d x k (M m : Mem), x + d = nS → d < k → INV M m t u → M 146 0 = nI nS → m 0 83 = nI nS → (∀ x, x < nS → od x < 3 ∧ m 57 x = 10 * nI (od x) + M 151 (4 * od x)) → ∃ M' m', f_L_asks_L572 fu (nI (ordN od nS)) kE k (nI x) M = kE M' ∧ INV M' m' t u ∧ M' 146 0 = nI nS ∧ m' 0 83 = nI nS := by
  intro d
  induction d with
  | zero =>
    intro x k M m h1 h2 hI h146 h83 h57
    obtain ⟨k, rfl⟩ := fu1 h2
    obtain rfl : x = nS := by omega
    refine ⟨M, m, ?_, hI, h146, h83⟩
    simp (disch := omega) only [f_L_asks_L572, h146, nI_leI, Nat.le_refl, if_true]
  | succ d ih =>
    intro x k M m h1 h2 hI h146 h83 h57
    obtain ⟨k, rfl⟩ := fu1 h2
    have h5 : ¬ nS ≤ x := by omega
    obtain ⟨w1, w2⟩ := h57 x (by omega)
    obtain ⟨o1, o2⟩ := ordN_at (x := x) (fun y hy => (h57 y hy).1) hS3 (by omega)
    have sh := ord_sh ⟨ordN od nS, o2⟩ ⟨x, by omega⟩
    dsimp only at sh
    rw [o1] at sh
    obtain ⟨M1, a1, a2, a3⟩ := eCall (k0 := 0) (cs := [1]) hI (taken_call (fu := fu) (p1 := nI x) hI.2) (xtaken (fu := fu) (by omega) hS3 h83) .up0 (by rw [up_s]; rfl) (by decide) (by decide) (by decide) ht
    have a1' : f_L_taken fu (nI x) M = some (m 57 x, M1) := a1
    have e4 : (4 : Int32) * nI (od x) = nI (4 * od x) := pk_mul 4 _
    obtain ⟨M2, m2, g1, g2⟩ := ih (x + 1) k M1 (up m 0 0 0) (by omega) (by omega) a2 (by rw [a3 146 (by omega)]; exact h146) (by rw [up_m (by omega)]; exact h83) (fun y hy => by rw [up_n (by omega), a3 151 (by omega)]; exact h57 y hy)
    refine ⟨M2, m2, ?_, g2⟩
    rw [← g1]
    have hx' : ¬ nI nS ≤ nI x := by rw [nI_leI (by omega) (by omega)]; exact h5
    simp only [f_L_asks_L572, h146, if_neg hx', nm_d, sh, a1', bm_some, e4, nI_1]
    rw [inb_nI (by omega) (by omega), grd_true, nI_clamp (by omega), a3 151 (by omega), if_pos w2]
theorem asks_ok (hfu : 5000 ≤ fu) (hI : INV M m t u) (ht : t + 2000 < 2 ^ 26) : ∃ M' m' t', f_L_asks fu p1 p2 M = some (1, M') ∧ INV M' m' t' u ∧ t ≤ t' ∧ t' ≤ t + 1500 := by
  obtain ⟨fr, dl, hfr, hdl, e0⟩ := asSplit (fu := fu) (p1 := p1) (p2 := p2) (M := M)
  rw [e0]
  have hu64 := hI.1.tt.2.2.2
  obtain ⟨M1, a1, a2, a3⟩ := asErr (a := 201) (b := 0) hfu hI (by omega) (Or.inl (Or.inr (by decide)))
  obtain ⟨M2, b1, b2, b3⟩ := asErr (a := 0) (b := 201) hfu a2 (by omega) (Or.inr ⟨by decide, Or.inr (by decide)⟩)
  obtain ⟨M3, c1, c2, c3⟩ := asErr (a := -1) (b := 0) hfu b2 (by omega) (Or.inl (Or.inl (by decide)))
  have i1 : ¬ (nI fr < 0 ∨ (200 : Int32) < nI fr) := by
    rintro (z | z)
    · exact nI_pos (by omega) z
    · exact nI_nlt (a := 200) (by omega) (by omega) z
  have i2 : ¬ (nI dl < 0 ∨ (200 : Int32) < nI dl) := by
    rintro (z | z)
    · exact nI_pos (by omega) z
    · exact nI_nlt (a := 200) (by omega) (by omega) z
  simp only [asB, a1, b1, c1, bm_some, if_true]
  generalize hm3 : up (up (up m 0 0 1) 0 0 1) 0 0 1 = m3 at c2
  obtain ⟨RR, nS, nL, nC, nO, _, ⟨hD, hDG⟩, _⟩ := id c2.1
  have hS3 := hDG.1.2
  have hO3 := hDG.2.2.2.1.2
  have hS0 : (M3 146 0 = 0) = (nS = 0) := by rw [hD.1.1, show (0 : Int32) = nI 0 from rfl, nI_eq (by omega) (by omega)]
  have hO0 : (M3 146 3 = 0) = (nO = 0) := by rw [hD.1.2.2.2.1, show (0 : Int32) = nI 0 from rfl, nI_eq (by omega) (by omega)]
  by_cases hd : nS = 0 ∨ nO = 0
  · have hc : M3 146 0 = 0 ∨ M3 146 3 = 0 := by rw [hS0, hO0]; exact hd
    rw [if_pos hc]
    have hdd : ∀ q : Mem, DG q nS nL nC nO → f_X11_isDrafted fu q = some 0 := fun q hq => by
      have hdr := fun z => (show ¬ (0 < nS ∧ 0 < nO) by omega) (hq.dr.mpr z)
      simp only [f_X11_isDrafted]
      by_cases z : q 0 22 ≤ 0
      · simp [z]
      · by_cases z' : q 0 34 ≤ 0
        · simp [z']
        · exact absurd ⟨z, z'⟩ hdr
    have hDG' : ∀ x, DG (up m3 0 0 x) nS nL nC nO := fun x => hDG.cg ⟨fun a _ _ => up_n (by omega), fun j _ _ => up_m (by omega)⟩
    have g1 : f_X11_ask fu (nI fr) (nI dl) m3 = some (0, up m3 0 0 2) := by
      simp only [f_X11_ask, nm_d, jn_d, in0, i1, i2, if_false, hdd m3 hDG, bd_some, if_true, up_s]
      rfl
    obtain ⟨M4, d1, d2, d3⟩ := eCall (k0 := 3) (cs := [2, 3]) c2 (ask_call (p1 := nI fr) (p2 := nI dl) hfu c2.2 (by omega) (by omega)) g1 .up0 (by rw [up_s]; rfl) (by decide) (by decide) (by decide) (by omega)
    have d1' : f_L_ask fu (nI fr) (nI dl) M3 = some (-7300, M4) := d1
    have g2 : f_X11_answersAnew fu (up m3 0 0 2) = some (0, up (up m3 0 0 2) 0 0 1) := by
      simp only [f_X11_answersAnew, hdd _ (hDG' 2), bd_some, if_true, nm_d, up_s]
      rfl
    obtain ⟨M5, q1, q2, q3⟩ := eCall (k0 := 3) (cs := [3]) d2 (answersAnew_call hfu d2.2) g2 .up0 (by rw [up_s]; rfl) (by decide) (by decide) (by decide) (by omega)
    have q1' : f_L_answersAnew fu M4 = some (-7300, M5) := q1
    have g3 : f_X11_answerAnew fu 0 0 (up (up m3 0 0 2) 0 0 1) = some (0, up (up (up m3 0 0 2) 0 0 1) 0 0 1) := by
      have : DG (up (up m3 0 0 2) 0 0 1) nS nL nC nO := (hDG' 2).cg ⟨fun a _ _ => up_n (by omega), fun j _ _ => up_m (by omega)⟩
      simp only [f_X11_answerAnew, hdd _ this, bd_some, if_true, nm_d, up_s]
      rfl
    obtain ⟨M6, r1, r2, r3⟩ := eCall (k0 := 3) (cs := [3, 1]) q2 (answerAnew_call (p1 := 0) (p2 := 0) hfu q2.2) g3 .up0 (by rw [up_s]; rfl) (by decide) (by decide) (by decide) (by omega)
    have r1' : f_L_answerAnew fu 0 0 M5 = some (-7300, M6) := r1
    refine ⟨M6, _, t, ?_, r2, Nat.le_refl _, by omega⟩
    simp only [d1', q1', r1', bm_some, if_true]
  · have hc : ¬ (M3 146 0 = 0 ∨ M3 146 3 = 0) := by rw [hS0, hO0]; exact hd
    rw [if_neg hc]
    obtain ⟨M57, n, t', k, nS', od, s1, s2, s3, s4, ⟨s5, s5'⟩, s6, s7, ⟨s8, s9, s10⟩, s11⟩ := ask_L (fu := fu) (fr := fr) (dl := dl) hfu c2.1 (fun a b c d hd' => by
      have h1 := hd'.1
      have h2 := hd'.2.2.2.1
      have e1 : a = nS := (nI_eq (by omega) (by omega)).mp (h1.1.symm.trans hDG.1.1)
      have e2 : d = nO := (nI_eq (by omega) (by omega)).mp (h2.1.symm.trans hDG.2.2.2.1.1)
      omega) hfr hdl (by omega)
    have hREL : REL M57 m3 t u := c2.2.cgC s7
    obtain ⟨M4, d1, d2, d3⟩ := rCall (k0 := 0) (cs := [2, 3]) s4 (ask_call (p1 := nI fr) (p2 := nI dl) hfu hREL (by omega) (by omega)) s2 (by rw [s3]; rfl) (by decide) (by decide) (by decide) (by omega) (by omega) (by omega)
    have d1' : f_L_ask fu (nI fr) (nI dl) M57 = some (nI k, M4) := d1
    rw [s1]
    simp only [asK, d1', bm_some]
    rw [d3 152 (by omega), if_pos s6.symm]
    obtain ⟨M5, m5, g1, g2, g3, g4⟩ := asTk (fu := fu) (od := od) (nS := nS') (kE := fun (M_63 : Mem) => bm (f_L_taken fu (M_63 146 0) M_63) (fun r_65 M_66 => (if r_65 = (-7100) then bm (f_L_taken fu (-1) M_66) (fun r_69 M_70 => (if r_69 = (-7100) then some ((1 : Int32), M_70) else some ((0 : Int32), M_70))) else some ((0 : Int32), M_66)))) (show t' < 2 ^ 29 by omega) s8 nS' 0 4 M4 n (by omega) (by omega) d2 (by rw [d3 146 (by omega)]; exact s9) s10 (fun x hx => by rw [d3 151 (by omega)]; exact s11 x hx)
    have hend : nI nS' < 0 ∨ m5 0 83 - 1 < nI nS' := by
      rw [g4]
      by_cases hz : nS' = 0
      · subst hz; right; decide
      · right
        obtain ⟨y, rfl⟩ : ∃ y, nS' = y + 1 := ⟨nS' - 1, by omega⟩
        rw [show nI (y + 1) - 1 = nI y from nI_pred y]
        exact nI_lt (by omega) (by omega)
    obtain ⟨M6, r1, r2, r3⟩ := eCall (k0 := 1) (cs := [1]) g2 (taken_call (fu := fu) (p1 := nI nS') g2.2) (xtakenE hend) .up0 (by rw [up_s]; rfl) (by decide) (by decide) (by decide) (by omega)
    have r1' : f_L_taken fu (nI nS') M5 = some (-7100, M6) := r1
    obtain ⟨M7, v1, v2, v3⟩ := eCall (k0 := 1) (cs := [1]) r2 (taken_call (fu := fu) (p1 := -1) r2.2) (xtakenE (Or.inl (by decide))) .up0 (by rw [up_s]; rfl) (by decide) (by decide) (by decide) (by omega)
    have v1' : f_L_taken fu (-1) M6 = some (-7100, M7) := v1
    refine ⟨M7, _, t', ?_, v2, s5, s5'⟩
    refine Eq.trans g1 ?_
    simp only [g3, r1', v1', bm_some, if_true]
end Asks3L
