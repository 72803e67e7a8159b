/-! ===== a call, both: what is asked of its two answers ===== -/
/-- a code that the law's wrapper catches -/
abbrev kk (km : Nat → Nat) (k : Nat) : Prop := k ≤ 3 ∧ km k ≤ 3 ∧ (km k = 0 → k = 0)
def kmI (k : Nat) : Nat := k
def kmB (k : Nat) : Nat := if k = 0 then 0 else if k = 1 then 1 else if k = 2 then 2 else 9
def kmC (k : Nat) : Nat := if k = 0 then 0 else if k = 1 then 1 else 9
def kmP (k : Nat) : Nat := if k = 0 then 0 else if k = 2 then 1 else 9
def kmS (k : Nat) : Nat := if k = 0 then 0 else if k = 1 then 1 else if k = 3 then 2 else 9
def kmA (k : Nat) : Nat := if k = 0 then 0 else if k = 2 then 1 else if k = 3 then 2 else 9
def kmN (k : Nat) : Nat := if k = 0 then 0 else if k = 3 then 1 else if k = 1 then 2 else 9
def kmR (k : Nat) : Nat := if k = 0 then 0 else if k = 3 then 1 else 9
def OUT (km : Nat → Nat) (t u : Nat) (f : Option XR) (g : Option (Int32 × Mem)) : Prop := ∃ k v N w n t' u', f = some (k, v, N) ∧ g = some (w, n) ∧ n 0 0 = nI (km k) ∧ (k = 0 → v = w) ∧ kk km k ∧ t ≤ t' ∧ t' ≤ t + 2000 ∧ u ≤ u' ∧ u' ≤ u + 8 ∧ REL N n t' u'
section Rel
variable {fu nS nL nC nO i j s t u e p c : Nat} {M m N n : Mem} {RR : Nat → List Row} {v p1 p2 p3 p4 p5 p6 : Int32} {km : Nat → Nat} {f : Option XR} {g : Option (Int32 × Mem)}
theorem inR {x : Int32} {b : Nat} (h0 : ¬ x < 0) (h1 : ¬ nI b < x) (hb : b < 2 ^ 31) : ∃ k, k ≤ b ∧ x = nI k := by
  obtain ⟨j, hj, rfl⟩ := nI_of h0
  refine ⟨j, ?_, rfl⟩
  rw [nI_ltI hb hj] at h1
  omega
/-- both stand as they stood, but for the mark of what was thrown -/
theorem REL.up0 (h : REL M m t u) (x : Int32) : REL M (up m 0 0 x) t u := by
  obtain ⟨RR, nS, nL, nC, nO, w1, w2, w3, w4, w5, w6, ⟨⟨k, cols, k1, k2, k3, k4, k5, k6, k7⟩, l2, l3, l4, l5, l6, p, p1, p2, p3, p4⟩, w8⟩ := h
  have e : ∀ a, a ≠ 0 → up m 0 0 x a = m a := fun a ha => up_n ha
  have e0 : ∀ j, j ≠ 0 → up m 0 0 x 0 j = m 0 j := fun j hj => up_m hj
  generalize up m 0 0 x = n at *
  have hD : DS n m := ⟨fun a z1 z2 => e a (by omega), fun j z1 z2 => e0 j (by omega)⟩
  refine ⟨RR, nS, nL, nC, nO, w1.of (w1.1.cg (fun _ _ _ _ => rfl) (e0 7 (by omega)) (e0 8 (by omega)) (e0 39 (by omega)) (fun a z1 z2 => e a (by omega)) (fun a z1 z2 => e a (by omega))) (fun _ _ _ _ => rfl) (fun a z1 z2 => e a (by omega)) (e0 6 (by omega)), w2.cg (fun _ _ _ => rfl) hD, w3.cg hD, w4.cg rfl (e 18 (by omega)), w5.cg rfl (e 17 (by omega)), by rw [w6, e 48 (by omega)], ⟨⟨k, cols, k1, k2, k3, by rw [e0 75 (by omega)]; exact k4, k5, by rw [e0 76 (by omega)]; exact k6, fun x c hx hc => by rw [e 56 (by omega)]; exact k7 x c hx hc⟩, ?_, ?_, ?_, ?_, ?_, p, p1, p2, ?_, ?_⟩, w8.cg ⟨fun _ _ _ => rfl, fun a z1 z2 => e a (by omega), e0 85 (by omega)⟩⟩
  · rw [e0 78 (by omega)]; exact l2
  · rw [e0 79 (by omega)]; exact l3
  · rw [e0 80 (by omega)]; exact l4
  · rw [e0 81 (by omega)]; exact l5
  · rw [e0 82 (by omega)]; exact l6
  · rw [e0 83 (by omega)]; exact p3
  · rw [e 57 (by omega)]; exact p4
theorem REL.hi (h : REL M m t u) : (∀ RR nS nL nC nO, WR M m t u RR ∧ DR M m ∧ DG m nS nL nC nO ∧ ZR M m ∧ FR M m ∧ M 121 = m 48 ∧ LA M m ∧ BB M m → v = p1) → v = p1 := by
  obtain ⟨RR, nS, nL, nC, nO, w⟩ := h
  exact fun h => h RR nS nL nC nO w
/-- nothing but the mark -/
theorem OUT.same {k : Nat} (h : REL M m t u) (hk : k ≤ 3) (hf : f = some (k, v, M)) (hg : g = some (p1, up m 0 0 (nI (km k)))) (he : k = 0 → v = p1) (hkm : km k ≤ 3 ∧ (km k = 0 → k = 0) := by decide) : OUT km t u f g :=
  ⟨k, v, M, p1, _, t, u, hf, hg, up_s, he, ⟨hk, hkm⟩, Nat.le_refl _, by omega, Nat.le_refl _, by omega, h.up0 _⟩
theorem bx_0 {β : Type} {k : Int32 → Mem → Option (Nat × Int32 × β)} {er : Nat → Mem → Option (Nat × Int32 × β)} : bx (some (0, v, M)) k er = k v M := rfl
theorem bx_e {β : Type} {k : Int32 → Mem → Option (Nat × Int32 × β)} {er : Nat → Mem → Option (Nat × Int32 × β)} : bx (some (e + 1, v, M)) k er = er (e + 1) M := rfl
theorem bx_1 {β : Type} {k : Int32 → Mem → Option (Nat × Int32 × β)} {er : Nat → Mem → Option (Nat × Int32 × β)} : bx (some (1, v, M)) k er = er 1 M := rfl
theorem bx_2 {β : Type} {k : Int32 → Mem → Option (Nat × Int32 × β)} {er : Nat → Mem → Option (Nat × Int32 × β)} : bx (some (2, v, M)) k er = er 2 M := rfl
theorem bx_3 {β : Type} {k : Int32 → Mem → Option (Nat × Int32 × β)} {er : Nat → Mem → Option (Nat × Int32 × β)} : bx (some (3, v, M)) k er = er 3 M := rfl
theorem i10 : (1 : Int32) = 0 ↔ False := by decide
theorem i00 : (0 : Int32) = 0 ↔ True := by decide
theorem needP (c : Prop) [Decidable c] : f_X10_needPlace fu (if c then 0 else 1) M = if c then some (1, 0, M) else some (0, 0, M) := by
  by_cases h : c <;> simp [f_X10_needPlace, h]
theorem needA (c : Prop) [Decidable c] : f_X10_needArgument fu (if c then 0 else 1) M = if c then some (2, 0, M) else some (0, 0, M) := by
  by_cases h : c <;> simp [f_X10_needArgument, h]
theorem needS (c : Prop) [Decidable c] : f_X10_needState fu (if c then 0 else 1) M = if c then some (3, 0, M) else some (0, 0, M) := by
  by_cases h : c <;> simp [f_X10_needState, h]
theorem isIn0 {x : Int32} {a b : Int32} : (f_X10_isIn x a b = 0) = (x < a ∨ b < x) := by
  simp only [f_X10_isIn]
  by_cases h : x < a <;> by_cases h' : b < x <;> simp [h, h']
theorem in0 {x : Int32} {a b : Int32} : (f_X11_in x a b = 0) = (x < a ∨ b < x) := by
  simp only [f_X11_in]
  by_cases h : x < a <;> by_cases h' : b < x <;> simp [h, h']
theorem needI {b : Int32} : f_X10_needIndex fu p1 b M = if p1 < 0 ∨ b ≤ p1 then some (1, 0, M) else some (0, 0, M) := by
  simp only [f_X10_needIndex, nm_d]
  by_cases h : p1 < 0
  · simp [h, f_X10_needPlace, bx, xer]
  · by_cases h' : b ≤ p1
    · simp [h, h', f_X10_needPlace, bx, xer]
    · simp [h, h', f_X10_needPlace, bx]
theorem ask_call (hfu : 5000 ≤ fu) (h : REL M m t u) (ht : t < 2 ^ 28 - 2) (hu : u < 2 ^ 28 - 2) : OUT kmA t u (f_X10_ask fu p1 p2 M) (f_X11_ask fu p1 p2 m) := by
  by_cases h1 : p1 < 0 ∨ 200 < p1
  · refine OUT.same (k := 2) (v := 0) (p1 := 0) h (by omega) ?_ ?_ (fun hk => by omega)
    · simp only [f_X10_ask, nm_d, isIn0, h1, if_true, f_X10_needArgument, bx_2, xer]
    · simp only [f_X11_ask, nm_d, jn_d, in0, h1, if_true, up_s]
      rfl
  by_cases h2 : p2 < 0 ∨ 200 < p2
  · refine OUT.same (k := 2) (v := 0) (p1 := 0) h (by omega) ?_ ?_ (fun hk => by omega)
    · simp only [f_X10_ask, nm_d, isIn0, h1, h2, if_true, if_false, f_X10_needArgument, bx_2, xer]
    · simp only [f_X11_ask, nm_d, jn_d, in0, h1, h2, if_true, if_false, up_s]
      rfl
  obtain ⟨RR, nS, nL, nC, nO, w⟩ := id h
  have hq : f_X4_isQuery fu M = f_X11_isDrafted fu m := by
    obtain ⟨⟨a1, a2, a3, a4, _⟩, _⟩ := w.2.1
    simp only [f_X4_isQuery, f_X11_isDrafted, a1, a4]
  by_cases h3 : 0 < nS ∧ 0 < nO
  · obtain ⟨fr, f1, rfl⟩ := inR (x := p1) (b := 200) (fun z => h1 (Or.inl z)) (fun z => h1 (Or.inr z)) (by omega)
    obtain ⟨dl, g1, rfl⟩ := inR (x := p2) (b := 200) (fun z => h2 (Or.inl z)) (fun z => h2 (Or.inr z)) (by omega)
    have hdr := w.2.2.1.dr.mp h3
    have hd : f_X11_isDrafted fu m = some 1 := by
      simp only [f_X11_isDrafted, hdr.1, hdr.2, if_false]
    obtain ⟨RR', nS', nL', nC', nO', w'⟩ := h.up0 0
    obtain ⟨N, n, t', v, e1, e2, e3, e4, e5, e6⟩ := ask3 (fu := fu) (fr := fr) (dl := dl) (m := up m 0 0 0) (M := M) (t := t) (u := u) hfu w'.1 w'.2.1 w'.2.2.1 w'.2.2.2.1 w'.2.2.2.2.1 w'.2.2.2.2.2.1 w'.2.2.2.2.2.2.2 up_s ((w'.2.2.1.dr.mpr (by rw [up_m (by omega), up_m (by omega)]; exact hdr)).1) ((w'.2.2.1.dr.mpr (by rw [up_m (by omega), up_m (by omega)]; exact hdr)).2) f1 g1 (by omega) (by omega)
    refine ⟨0, v, N, v, n, t', u, ?_, ?_, ?_, fun _ => rfl, by decide, e3, by omega, by omega, by omega, e5⟩
    · rw [← e1]
      simp only [f_X10_ask, nm_d, isIn0, h1, h2, if_false, f_X10_needArgument, i10, bx_0, hq, hd, bd_some, f_X10_needState]
    · rw [← e2]
      simp only [f_X11_ask, nm_d, jn_d, in0, h1, h2, if_false, hd, bd_some, i10, up_s, Int32.le_refl, if_true, mst]
      rfl
    · exact e6
  · have hdr := fun z => h3 (w.2.2.1.dr.mpr z)
    have hd : f_X11_isDrafted fu m = some 0 := by
      simp only [f_X11_isDrafted]
      by_cases z : m 0 22 ≤ 0
      · simp [z]
      · by_cases z' : m 0 34 ≤ 0
        · simp [z']
        · exact absurd ⟨z, z'⟩ hdr
    refine OUT.same (k := 3) (v := 0) (p1 := 0) h (by omega) ?_ ?_ (fun hk => by omega)
    · simp only [f_X10_ask, nm_d, isIn0, h1, h2, if_false, f_X10_needArgument, i10, bx_0, hq, hd, bd_some, f_X10_needState, if_true, bx_3, xer]
    · simp only [f_X11_ask, nm_d, jn_d, in0, h1, h2, if_false, hd, bd_some, if_true, up_s]
      rfl
end Rel
