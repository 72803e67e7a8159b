/-! ===== what a scan has told is kept: the reference ===== -/
section Remember
variable {fu nS nL nC nO i s t u e : Nat} {M m N n : Mem} {L : List Ent} {A : List Row} {r : Row}
theorem nm_to {α β : Type} {v w : α} {k : α → β} {r : β} (h : v = w) (h2 : k w = r) : nm v k = r := by subst h; exact h2
theorem grd_to {β : Type} {b : Bool} {k r : Option β} (h : b = true) (h2 : k = r) : grd b k = r := by rw [grd_t h]; exact h2
theorem EM1.cgp {E : Ent} (h : EM1 M e E) (h1 : ∀ a, 30 ≤ a → a ≤ 35 → N a e = M a e) (h2 : N 38 e = M 38 e) (h3 : ∀ j, j < 12 → N 36 (12 * e + j) = M 36 (12 * e + j)) (h4 : ∀ j, j < 48 → N 37 (48 * e + j) = M 37 (48 * e + j)) (h5 : ∀ j, j < 4 → N 39 (4 * e + j) = M 39 (4 * e + j) ∧ N 40 (4 * e + j) = M 40 (4 * e + j) ∧ N 41 (4 * e + j) = M 41 (4 * e + j)) : EM1 N e E := by
  obtain ⟨⟨b1, b2, b3, b4, b5, b6⟩, ⟨c1, c2, c3⟩, d1, d2, d3⟩ := h
  refine ⟨⟨?_, b2, ?_, ?_, ?_, ?_⟩, ⟨?_, c2, ?_⟩, ?_, d2, ?_⟩
  · rw [h1 30 (by omega) (by omega)]; exact b1
  · rw [h1 31 (by omega) (by omega)]; exact b3
  · rw [h1 32 (by omega) (by omega)]; exact b4
  · rw [h1 33 (by omega) (by omega)]; exact b5
  · rw [h1 34 (by omega) (by omega)]; exact b6
  · rw [h1 35 (by omega) (by omega)]; exact c1
  · exact c3.cg (fun j hj => h3 j (by omega)) (fun j hj => h4 j (by omega))
  · rw [h2]; exact d1
  · exact d3.cg (fun j hj => h5 j (by omega))
theorem rotL {k : Mem → Option Mem} (hfu : 5000 ≤ fu) (hL : L.length = 6) : ∀ d x n (M : Mem), x + d = 6 → 0 < x → d < n → (∀ j E, j + 1 < x → L[j + 1]? = some E → EM1 M j E) → (∀ j E, x ≤ j → L[j]? = some E → EM1 M j E) → ∃ N, f_X11_remembers_L11 fu k n (nI x) M = k N ∧ (∀ j E, (L.drop 1)[j]? = some E → EM1 N j E) ∧ ∀ a, a < 30 ∨ 41 < a → N a = M a := by
  intro d
  induction d with
  | zero =>
    intro x n M h1 h0 h2 hlo hhi
    obtain ⟨n, rfl⟩ := fu1 h2
    obtain rfl : x = 6 := by omega
    refine ⟨M, by simp (disch := omega) only [f_X11_remembers_L11, lit, nI_add, pk_mul, pk_sub, nI_clamp, inb_nI, nI_leI, nI_ltI, nI_eq, add_m1, ↓reduceIte, grd_true, nm_d, jn_d, bd_some, bm_some, om_some, om_none, Nat.le_refl], fun j E hj => ?_, fun _ _ => rfl⟩
    have hl := gl_lt hj
    simp at hl
    rw [List.getElem?_drop, Nat.add_comm] at hj
    exact hlo j E (by omega) hj
  | succ d ih =>
    intro x n M h1 h0 h2 hlo hhi
    obtain ⟨n, rfl⟩ := fu1 h2
    have h6 : ¬ 6 ≤ x := by omega
    obtain ⟨N, g1, g2, g3⟩ := ih (x + 1) n (mvM M x (x - 1)) (by omega) (by omega) (by omega)
      (fun j E hj hE => by
        by_cases hjx : j = x - 1
        · subst hjx
          rw [show x - 1 + 1 = x by omega] at hE
          exact EM1_mv (hhi x E (Nat.le_refl _) hE)
        · exact EM1_mvn (hlo j E (by omega) hE) hjx)
      (fun j E hj hE => EM1_mvn (hhi j E (by omega) hE) (by omega))
    refine ⟨N, ?_, g2, fun a ha => by rw [g3 a ha, mvM_n ha]⟩
    simp (disch := omega) only [f_X11_remembers_L11, lit, nI_add, pk_mul, pk_sub, nI_clamp, inb_nI, nI_leI, nI_ltI, nI_eq, add_m1, ↓reduceIte, grd_true, nm_d, jn_d, bd_some, bm_some, om_some, om_none, h6, moves_eq (M := M) hfu (show x < 6 by omega) (show x - 1 ≤ x by omega)]
    exact g1
theorem rm123 {k : Mem → Option Mem} (hi : i < 3) (he : e < 6) {l : Nat} (hl : l ≤ 12) (h43 : M 43 i = nI l) : ∀ d c n, c + d = l → d < n → f_X11_remembers_L123 fu (nI i) (nI e) k n (nI c) (row M 36 (va_cpy (M 44) (M 36) (12 * i) (12 * e) c)) = k (row M 36 (va_cpy (M 44) (M 36) (12 * i) (12 * e) l)) := by
  intro d
  induction d with
  | zero =>
    intro c n h1 h2
    obtain ⟨n, rfl⟩ := fu1 h2
    obtain rfl : c = l := by omega
    simp (disch := omega) only [f_X11_remembers_L123, lit, nI_add, pk_mul, pk_sub, nI_clamp, inb_nI, nI_leI, nI_ltI, nI_eq, add_m1, ↓reduceIte, grd_true, nm_d, jn_d, bd_some, bm_some, om_some, om_none, row_n, h43, Nat.le_refl]
  | succ d ih =>
    intro c n h1 h2
    obtain ⟨n, rfl⟩ := fu1 h2
    have hc : ¬ l ≤ c := by omega
    simp (disch := omega) only [f_X11_remembers_L123, lit, nI_add, pk_mul, pk_sub, nI_clamp, inb_nI, nI_leI, nI_ltI, nI_eq, add_m1, ↓reduceIte, grd_true, nm_d, jn_d, bd_some, bm_some, om_some, om_none, row_n, h43, hc]
    rw [up_row, row_s, row_row, cp_s]
    exact ih (c + 1) n (by omega) (by omega)
theorem rm163 {k : Mem → Option Mem} (hi : i < 3) (he : e < 6) {l : Nat} (hl : l ≤ 12) (h43 : M 43 i = nI l) : ∀ d c n, c + d = l * 4 → d < n → f_X11_remembers_L163 fu (nI i) (nI e) k n (nI c) (row M 37 (va_cpy (M 45) (M 37) (48 * i) (48 * e) c)) = k (row M 37 (va_cpy (M 45) (M 37) (48 * i) (48 * e) (l * 4))) := by
  intro d
  induction d with
  | zero =>
    intro c n h1 h2
    obtain ⟨n, rfl⟩ := fu1 h2
    obtain rfl : c = l * 4 := by omega
    simp (disch := omega) only [f_X11_remembers_L163, lit, nI_add, pk_mul, pk_sub, nI_clamp, inb_nI, nI_leI, nI_ltI, nI_eq, add_m1, ↓reduceIte, grd_true, nm_d, jn_d, bd_some, bm_some, om_some, om_none, row_n, h43, Nat.le_refl]
  | succ d ih =>
    intro c n h1 h2
    obtain ⟨n, rfl⟩ := fu1 h2
    have hc : ¬ l * 4 ≤ c := by omega
    simp (disch := omega) only [f_X11_remembers_L163, lit, nI_add, pk_mul, pk_sub, nI_clamp, inb_nI, nI_leI, nI_ltI, nI_eq, add_m1, ↓reduceIte, grd_true, nm_d, jn_d, bd_some, bm_some, om_some, om_none, row_n, h43, hc]
    rw [up_row, row_s, row_row, cp_s]
    exact ih (c + 1) n (by omega) (by omega)
theorem rm212 (he : e < 6) (hi : i < 3) : ∀ d w n (M : Mem), w + d = nC → d < n → DG M nS nL nC nO → DS M m → M 38 e = nI (cnd m i w).length → CV (off (M 39) (4 * e)) (off (M 40) (4 * e)) (off (M 41) (4 * e)) (cnd m i w) →
    ∃ N, f_X11_remembers_L212 fu (nI i) (nI e) n (nI w) M = some N ∧ N 38 e = nI (cnd m i nC).length ∧ CV (off (N 39) (4 * e)) (off (N 40) (4 * e)) (off (N 41) (4 * e)) (cnd m i nC) ∧ (∀ a, a ≠ 38 → a ≠ 39 → a ≠ 40 → a ≠ 41 → N a = M a) ∧ (∀ j, j ≠ e → N 38 j = M 38 j) ∧ (∀ j, j < 4 * e → N 39 j = M 39 j ∧ N 40 j = M 40 j ∧ N 41 j = M 41 j) := by
  intro d
  induction d with
  | zero =>
    intro w n M h1 h2 hG hD h4 hV
    obtain ⟨n, rfl⟩ := fu1 h2
    obtain rfl : w = nC := by omega
    have hc := hG.2.2.1
    exact ⟨M, by simp (disch := omega) only [f_X11_remembers_L212, hG.2.2.1.1, lit, nI_add, pk_mul, pk_sub, nI_clamp, inb_nI, nI_leI, nI_ltI, nI_eq, add_m1, ↓reduceIte, grd_true, nm_d, jn_d, bd_some, bm_some, om_some, om_none, Nat.le_refl], h4, hV, fun _ _ _ _ _ => rfl, fun _ _ => rfl, fun _ _ => ⟨rfl, rfl, rfl⟩⟩
  | succ d ih =>
    intro w n M h1 h2 hG hD h4 hV
    obtain ⟨n, rfl⟩ := fu1 h2
    have hc := hG.2.2.1
    have h3 : ¬ nC ≤ w := by omega
    have hcl := cnd_len (m := m) (i := i) (w := w)
    simp (disch := omega) only [f_X11_remembers_L212, hc.1, lit, nI_add, pk_mul, pk_sub, nI_clamp, inb_nI, nI_leI, nI_ltI, nI_eq, add_m1, ↓reduceIte, grd_true, nm_d, jn_d, bd_some, bm_some, om_some, om_none, h3, sent_eq hi (show w < 4 by omega), bI_0, h4, up_n]
    rw [hD.cs]
    cases hs : snt m i w with
    | false =>
      rw [if_pos rfl]
      have e1 : cnd m i (w + 1) = cnd m i w := by simp [cnd, hs]
      exact ih (w + 1) n M (by omega) (by omega) hG hD (by rw [e1]; exact h4) (by rw [e1]; exact hV)
    | true =>
      rw [if_neg (by decide)]
      obtain ⟨_, c, _, z2, _, z4, _⟩ := hG.2.2.2.2.2.2.2.2.1 w (by omega)
      have hcc : m 25 w = nI (m 25 w).toNatClampNeg := by rw [← hD.1 25 (by omega) (by omega), z2, nI_clamp (by omega)]
      have e1 : cnd m i (w + 1) = cnd m i w ++ [((m 25 w).toNatClampNeg, m 26 w, m 27 w)] := by simp [cnd, hs]
      have fD : DS (up (up (up (up M 39 (4 * e + (cnd m i w).length) (M 25 w)) 40 (4 * e + (cnd m i w).length) (M 26 w)) 41 (4 * e + (cnd m i w).length) (M 27 w)) 38 e (nI ((cnd m i w).length + 1))) M := ⟨fun a h1 h2 => by rw [up_n (by omega), up_n (by omega), up_n (by omega), up_n (by omega)], fun j h1 h2 => by rw [up_n (by omega), up_n (by omega), up_n (by omega), up_n (by omega)]⟩
      obtain ⟨N, g1, g2, g3, g4, g5, g6⟩ := ih (w + 1) n _ (by omega) (by omega) (hG.cg fD) (fD.trans hD)
        (by rw [e1, up_s, List.length_append]; rfl)
        (by
          rw [e1]
          have := CV_snoc (c := ((m 25 w).toNatClampNeg, m 26 w, m 27 w)) hV
          simp only [← hcc] at this
          simp (disch := omega) only [up_n, up_r, off_upd, hD.1]
          exact this)
      refine ⟨N, g1, g2, g3, fun a h1 h2 h3 h4 => by rw [g4 a h1 h2 h3 h4, up_n h1, up_n h4, up_n h3, up_n h2], fun j hj => by rw [g5 j hj, up_m hj, up_n (by omega), up_n (by omega), up_n (by omega)], fun j hj => ?_⟩
      obtain ⟨k1, k2, k3⟩ := g6 j hj
      refine ⟨?_, ?_, ?_⟩
      · rw [k1, up_n (by omega), up_n (by omega), up_n (by omega), up_m (by omega)]
      · rw [k2, up_n (by omega), up_n (by omega), up_m (by omega), up_n (by omega)]
      · rw [k3, up_n (by omega), up_m (by omega), up_n (by omega), up_n (by omega)]
theorem remK (hfu : 5000 ≤ fu) (hG : DG m nS nL nC nO) (hi : i < 3) (hs : m 19 i = nI s) (hs6 : s < 6) (hA : RS m i A) (hT : m 0 8 = nI t) (he : m 0 39 = nI L.length) (hL : L.length < 6) (hE : ∀ j E, L[j]? = some E → EM1 m j E) : ∃ N, f_X11_remembers fu (nI i) m = some N ∧ EM N (L ++ [(s, nI t, m 5 s, none, none, cnd m i nC, A)]) ∧ (∀ a, 0 < a → a < 30 ∨ 41 < a → N a = m a) ∧ ∀ j, j ≠ 39 → N 0 j = m 0 j := by
  have hl12 := hA.2.1
  have h6 : ¬ L.length = 6 := by omega
  generalize hP : up (up (up (up (up (up (up m 0 39 (nI (L.length + 1))) 30 L.length (nI s)) 31 L.length (nI t)) 32 L.length (m 5 s)) 33 L.length (-nI 1)) 34 L.length (-nI 1)) 35 L.length (nI A.length) = P
  have fP : ∀ a, 0 < a → a < 30 ∨ 35 < a → P a = m a := fun a h1 h2 => by rw [← hP]; simp (disch := omega) only [up_n]
  have fP0 : ∀ j, j ≠ 39 → P 0 j = m 0 j := fun j hj => by rw [← hP]; simp (disch := omega) only [up_n, up_m]
  have e0 : f_X11_remembers fu (nI i) m = f_X11_remembers_L123 fu (nI i) (nI L.length) (fun (M_15 : Mem) => f_X11_remembers_L163 fu (nI i) (nI L.length) (fun (M_17 : Mem) => f_X11_remembers_L212 fu (nI i) (nI L.length) fu (nI 0) (up M_17 38 L.length (nI 0))) fu (nI 0) M_15) fu (nI 0) P := by
    have hh : ¬ m 0 39 = 6 := by rw [he, lit, nI_eq (by omega) (by omega)]; exact h6
    unfold f_X11_remembers
    rw [jn_d, if_neg hh]
    refine nm_to he ?_
    refine nm_to (w := up m 0 39 (nI (L.length + 1))) (by rw [he, nI_1]) ?_
    refine grd_to (inb_nI hi (by omega)) (grd_to (inb_nI hL (by omega)) ?_)
    have c1 : (nI L.length).toNatClampNeg = L.length := nI_clamp (by omega)
    have c2 : (nI i).toNatClampNeg = i := nI_clamp (by omega)
    refine nm_to (w := up (up m 0 39 (nI (L.length + 1))) 30 L.length (nI s)) (by rw [c1, c2, up_n (by omega), hs]) ?_
    refine nm_to (w := up (up (up m 0 39 (nI (L.length + 1))) 30 L.length (nI s)) 31 L.length (nI t)) (by rw [c1, up_n (by omega), up_m (by omega), hT]) ?_
    refine grd_to (by rw [c2, up_n (by omega), up_n (by omega), up_n (by omega), hs]; exact inb_nI hs6 (by omega)) ?_
    refine nm_to (w := up (up (up (up m 0 39 (nI (L.length + 1))) 30 L.length (nI s)) 31 L.length (nI t)) 32 L.length (m 5 s)) (by rw [c1, c2, up_n (show 19 ≠ 31 by omega), up_n (show 19 ≠ 30 by omega), up_n (show 19 ≠ 0 by omega), hs, nI_clamp (by omega), up_n (show 5 ≠ 31 by omega), up_n (show 5 ≠ 30 by omega), up_n (show 5 ≠ 0 by omega)]) ?_
    refine nm_to (w := up (up (up (up (up m 0 39 (nI (L.length + 1))) 30 L.length (nI s)) 31 L.length (nI t)) 32 L.length (m 5 s)) 33 L.length (-nI 1)) (by rw [c1]; rfl) ?_
    refine nm_to (w := up (up (up (up (up (up m 0 39 (nI (L.length + 1))) 30 L.length (nI s)) 31 L.length (nI t)) 32 L.length (m 5 s)) 33 L.length (-nI 1)) 34 L.length (-nI 1)) (by rw [c1]; rfl) ?_
    refine nm_to (w := P) (by rw [← hP, c1, c2, up_n (show 43 ≠ 34 by omega), up_n (show 43 ≠ 33 by omega), up_n (show 43 ≠ 32 by omega), up_n (show 43 ≠ 31 by omega), up_n (show 43 ≠ 30 by omega), up_n (show 43 ≠ 0 by omega), hA.1]) ?_
    simp only [jn_d, nm_d, c1]
    rfl
  have q1 := rm123 (fu := fu) (i := i) (e := L.length) (M := P) (k := fun (M_15 : Mem) => f_X11_remembers_L163 fu (nI i) (nI L.length) (fun (M_17 : Mem) => f_X11_remembers_L212 fu (nI i) (nI L.length) fu (nI 0) (up M_17 38 L.length (nI 0))) fu (nI 0) M_15) hi hL hl12 (by rw [fP 43 (by omega) (by omega)]; exact hA.1) A.length 0 fu (by omega) (by omega)
  rw [cp_0, row_self] at q1
  rw [e0, q1]
  generalize hQ : row P 36 (va_cpy (P 44) (P 36) (12 * i) (12 * L.length) A.length) = Q
  have q2 := rm163 (fu := fu) (i := i) (e := L.length) (M := Q) (k := fun (M_17 : Mem) => f_X11_remembers_L212 fu (nI i) (nI L.length) fu (nI 0) (up M_17 38 L.length (nI 0))) hi hL hl12 (by rw [← hQ, row_n (by omega), fP 43 (by omega) (by omega)]; exact hA.1) (A.length * 4) 0 fu (by omega) (by omega)
  rw [cp_0, row_self] at q2
  rw [q2]
  generalize hS : up (row Q 37 (va_cpy (Q 45) (Q 37) (48 * i) (48 * L.length) (A.length * 4))) 38 L.length (nI 0) = S
  have fS : ∀ a, a ≠ 36 → a ≠ 37 → a ≠ 38 → S a = P a := fun a h1 h2 h3 => by rw [← hS, up_n h3, row_n h2, ← hQ, row_n h1]
  have S36 : S 36 = va_cpy (m 44) (m 36) (12 * i) (12 * L.length) A.length := by rw [← hS, up_n (by omega), row_n (by omega), ← hQ, row_s, fP 44 (by omega) (by omega), fP 36 (by omega) (by omega)]
  have S37 : S 37 = va_cpy (m 45) (m 37) (48 * i) (48 * L.length) (A.length * 4) := by rw [← hS, up_n (by omega), row_s, ← hQ, row_n (by omega), row_n (by omega), fP 45 (by omega) (by omega), fP 37 (by omega) (by omega)]
  have S38 : ∀ j, j ≠ L.length → S 38 j = m 38 j := fun j hj => by rw [← hS, up_m hj, row_n (by omega), ← hQ, row_n (by omega), fP 38 (by omega) (by omega)]
  have fD : DS S m := ⟨fun a h1 h2 => by rw [fS a (by omega) (by omega) (by omega), fP a (by omega) (by omega)], fun j h1 h2 => by rw [fS 0 (by omega) (by omega) (by omega), fP0 j (by omega)]⟩
  obtain ⟨N, g1, g2, g3, g4, g5, g6⟩ := rm212 (fu := fu) (m := m) hL hi nC 0 fu S (by omega) (by have := hG.2.2.1.2; omega) (hG.cg fD) fD (by rw [← hS]; exact up_s) (fun j c hj => by simp [cnd] at hj)
  have hlen : (L ++ [(s, nI t, m 5 s, none, none, cnd m i nC, A)]).length = L.length + 1 := by simp
  have fN : ∀ a, a ≠ 36 → a ≠ 37 → a ≠ 38 → a ≠ 39 → a ≠ 40 → a ≠ 41 → N a = P a := fun a h1 h2 h3 h4 h5 h6 => by rw [g4 a h3 h4 h5 h6, fS a h1 h2 h3]
  refine ⟨N, g1, ⟨?_, by omega, fun j E hj => ?_⟩, fun a h1 h2 => by rw [fN a (by omega) (by omega) (by omega) (by omega) (by omega) (by omega), fP a h1 (by omega)], fun j hj => by rw [fN 0 (by omega) (by omega) (by omega) (by omega) (by omega) (by omega), fP0 j hj]⟩
  · rw [fN 0 (by omega) (by omega) (by omega) (by omega) (by omega) (by omega), ← hP, hlen]
    simp (disch := omega) only [up_n, up_s]
  · by_cases hj1 : j = L.length
    · subst hj1
      rw [List.getElem?_concat_length] at hj
      cases hj
      refine ⟨⟨?_, hs6, ?_, ?_, ?_, ?_⟩, ⟨?_, hl12, ?_⟩, g2, ?_, g3⟩
      · rw [fN 30 (by omega) (by omega) (by omega) (by omega) (by omega) (by omega), ← hP]; simp (disch := omega) only [up_n, up_s]
      · rw [fN 31 (by omega) (by omega) (by omega) (by omega) (by omega) (by omega), ← hP]; simp (disch := omega) only [up_n, up_s]
      · rw [fN 32 (by omega) (by omega) (by omega) (by omega) (by omega) (by omega), ← hP]; simp (disch := omega) only [up_n, up_s]
      · rw [fN 33 (by omega) (by omega) (by omega) (by omega) (by omega) (by omega), ← hP]; simp (disch := omega) only [up_n, up_s]; rfl
      · rw [fN 34 (by omega) (by omega) (by omega) (by omega) (by omega) (by omega), ← hP]; simp (disch := omega) only [up_n, up_s]; rfl
      · rw [fN 35 (by omega) (by omega) (by omega) (by omega) (by omega) (by omega), ← hP]; simp (disch := omega) only [up_n, up_s]
      · rw [g4 36 (by omega) (by omega) (by omega) (by omega), g4 37 (by omega) (by omega) (by omega) (by omega), S36, S37]
        refine hA.2.2.cg (fun x hx => ?_) (fun x hx => ?_)
        · simp only [off]; rw [pk_cpy_in (by omega) (by omega)]; congr 1; omega
        · simp only [off]; rw [pk_cpy_in (by omega) (by omega)]; congr 1; omega
      · have := cnd_len (m := m) (i := i) (w := nC)
        have := hG.2.2.1.2
        show (cnd m i nC).length ≤ 4
        omega
    · have hl := gl_lt hj
      rw [hlen] at hl
      rw [List.getElem?_append_left (by omega)] at hj
      refine (hE j E hj).cgp (fun a h1 h2 => ?_) ?_ (fun x hx => ?_) (fun x hx => ?_) (fun x hx => ?_)
      · rw [fN a (by omega) (by omega) (by omega) (by omega) (by omega) (by omega), ← hP]
        by_cases x1 : a = 30
        · subst x1; simp (disch := omega) only [up_n, up_m]
        · by_cases x2 : a = 31
          · subst x2; simp (disch := omega) only [up_n, up_m]
          · by_cases x3 : a = 32
            · subst x3; simp (disch := omega) only [up_n, up_m]
            · by_cases x4 : a = 33
              · subst x4; simp (disch := omega) only [up_n, up_m]
              · by_cases x5 : a = 34
                · subst x5; simp (disch := omega) only [up_n, up_m]
                · have x6 : a = 35 := by omega
                  subst x6; simp (disch := omega) only [up_n, up_m]
      · rw [g5 j hj1, S38 j hj1]
      · rw [g4 36 (by omega) (by omega) (by omega) (by omega), S36, pk_cpy_out (by omega)]
      · rw [g4 37 (by omega) (by omega) (by omega) (by omega), S37, pk_cpy_out (by omega)]
      · obtain ⟨k1, k2, k3⟩ := g6 (4 * j + x) (by omega)
        rw [k1, k2, k3, fS 39 (by omega) (by omega) (by omega), fS 40 (by omega) (by omega) (by omega), fS 41 (by omega) (by omega) (by omega), fP 39 (by omega) (by omega), fP 40 (by omega) (by omega), fP 41 (by omega) (by omega)]
        exact ⟨rfl, rfl, rfl⟩
theorem remSplit {p1 : Int32} : ∃ K : Mem → Option Mem, ∀ M, f_X11_remembers fu p1 M = if M 0 39 = 6 then f_X11_remembers_L11 fu (fun M_53 => K (up M_53 0 39 (M_53 0 39 - 1))) fu 1 M else K M := ⟨_, fun _ => Eq.refl _⟩
theorem rem_ok (hfu : 5000 ≤ fu) (h : EM m L) (hG : DG m nS nL nC nO) (hi : i < 3) (hs : m 19 i = nI s) (hs6 : s < 6) (hA : RS m i A) (hT : m 0 8 = nI t) : ∃ N, f_X11_remembers fu (nI i) m = some N ∧ EM N (rot L ++ [(s, nI t, m 5 s, none, none, cnd m i nC, A)]) ∧ (∀ a, 0 < a → a < 30 ∨ 41 < a → N a = m a) ∧ ∀ j, j ≠ 39 → N 0 j = m 0 j := by
  obtain ⟨h1, h2, h3⟩ := h
  by_cases h6 : L.length = 6
  · have hr : rot L = L.drop 1 := by simp [rot, h6]
    have hrl : (L.drop 1).length = 5 := by simp; omega
    rw [hr]
    obtain ⟨K, hK⟩ := remSplit (fu := fu) (p1 := nI i)
    obtain ⟨P, g1, g2, g3⟩ := rotL (k := fun M_53 => K (up M_53 0 39 (M_53 0 39 - 1))) hfu h6 5 1 fu m (by omega) (by omega) (by omega) (fun j E hj => by omega) (fun j E _ hj => h3 j E hj)
    have hP6 : P 0 39 = nI 6 := by rw [g3 0 (by omega), h1, h6]
    have fD : DS (up P 0 39 (nI 5)) m := ⟨fun a h1 h2 => by rw [up_n (by omega), g3 a (by omega)], fun j h1 h2 => by rw [up_m (by omega), g3 0 (by omega)]⟩
    obtain ⟨N, k1, k2, k3, k4⟩ := remK (fu := fu) (L := L.drop 1) (m := up P 0 39 (nI 5)) (t := t) hfu (hG.cg fD) hi (by rw [fD.1 19 (by omega) (by omega)]; exact hs) hs6 (hA.cg (by rw [up_n (by omega), g3 43 (by omega)]) (by rw [up_n (by omega), g3 44 (by omega)]) (by rw [up_n (by omega), g3 45 (by omega)])) (by rw [up_m (by omega), g3 0 (by omega)]; exact hT) (by rw [up_s, hrl]) (by omega) (fun j E hj => (g2 j E hj).cg (fun a h1 h2 => by rw [up_n (by omega)]))
    refine ⟨N, ?_, ?_, fun a z1 z2 => by rw [k3 a z1 z2, up_n (by omega), g3 a z2], fun j hj => by rw [k4 j hj, up_m hj, g3 0 (by omega)]⟩
    · rw [hK, up_s, if_neg (by decide)] at k1
      rw [hK, if_pos (by rw [h1, h6]; rfl)]
      exact g1.trans (by rw [hP6]; exact k1)
    · rw [up_n (by omega), g3 5 (by omega), fD.cc] at k2
      exact k2
  · have hr : rot L = L := by simp [rot, h6]
    rw [hr]
    exact remK hfu hG hi hs hs6 hA hT h1 (by omega) h3
end Remember
