/-! ===== an entry that serves: both ===== -/
def gvnW (m : Mem) (i : Nat) (c : Con) (w : Nat) : Bool := snt m i w && decide (m 25 w = nI c.1) && !decide (f_X10_follows c.2.1 c.2.2 (m 26 w) (m 27 w) = nI 0)
def gvn (m : Mem) (i nC : Nat) (c : Con) : Bool := an (gvnW m i c) nC
def gvnK (m : Mem) (i nC : Nat) (C : List Con) (k : Nat) : Bool := match C[k]? with | some c => gvn m i nC c | none => false
def srv (m : Mem) (i nC s t fr : Nat) (E : Ent) : Bool := decide (E.1 = s) && decide (¬ (nI fr < nI t - E.2.1)) && al (gvnK m i nC E.2.2.2.2.2.1) E.2.2.2.2.2.1.length
def srvK (m : Mem) (i nC s t fr : Nat) (L : List Ent) (k : Nat) : Bool := match L[k]? with | some E => srv m i nC s t fr E | none => false
/-- the last one below n -/
def lst (P : Nat → Bool) : Nat → Option Nat
  | 0 => none
  | n + 1 => if P n = true then some n else lst P n
section Serve
variable {fu nS nL nC nO i s t fr : Nat} {M m N n : Mem} {L : List Ent} {E : Ent} {c : Con}
theorem lst_lt {P : Nat → Bool} {n k : Nat} (h : lst P n = some k) : k < n ∧ P k = true := by
  induction n with
  | zero => cases h
  | succ n ih =>
    simp only [lst] at h
    split at h
    · cases h; exact ⟨by omega, by assumption⟩
    · have := ih h; exact ⟨by omega, this.2⟩
theorem isGivenL {a p : Nat} (hD : DR M m) (hG : DG m nS nL nC nO) (hi : i < 3) (hp : p < 4) (h4 : M (a + 4) p = nI c.1) (h5 : M (a + 5) p = c.2.1) (h6 : M (a + 6) p = c.2.2) : ∀ d w n, w + d = nC → d < n → an (gvnW m i c) w = false → f_X5_isGiven_L3 fu a (nI p) (nI i) M n (nI w) = some (bI (gvn m i nC c)) := by
  have hc := hG.2.2.1
  intro d
  induction d with
  | zero =>
    intro w n h1 h2 hw
    obtain ⟨n, rfl⟩ := fu1 h2
    obtain rfl : w = nC := by omega
    simp (disch := omega) only [f_X5_isGiven_L3, hD.1.2.2.1, hc.1, lit, nI_add, pk_mul, pk_sub, nI_clamp, inb_nI, nI_leI, nI_ltI, nI_eq, add_m1, ↓reduceIte, grd_true, nm_d, jn_d, bd_some, bm_some, om_some, om_none, Nat.le_refl, gvn, hw]
    rfl
  | succ d ih =>
    intro w n h1 h2 hw
    obtain ⟨n, rfl⟩ := fu1 h2
    have h3 : ¬ nC ≤ w := by omega
    have e1 : an (gvnW m i c) (w + 1) = gvnW m i c w := by simp [an, hw]
    have yes : gvnW m i c w = true → gvn m i nC c = true := fun h => an_t h (by omega)
    simp (disch := omega) only [f_X5_isGiven_L3, hD.1.2.2.1, hc.1, hD.2.1.2.2.1, hD.2.1.2.2.2.1, hD.2.1.2.2.2.2.1, lit, nI_add, pk_mul, pk_sub, nI_clamp, inb_nI, nI_leI, nI_ltI, nI_eq, add_m1, ↓reduceIte, grd_true, nm_d, jn_d, bd_some, bm_some, om_some, om_none, h3, csent_eq hD hi (show w < 4 by omega), bI_0, h4, h5, h6]
    cases hs : snt m i w with
    | false =>
      rw [if_pos rfl]
      exact ih (w + 1) n (by omega) (by omega) (by rw [e1]; simp [gvnW, hs])
    | true =>
      rw [if_neg (by decide)]
      by_cases hcol : m 25 w = nI c.1
      · rw [if_pos hcol]
        by_cases hf : f_X10_follows c.2.1 c.2.2 (m 26 w) (m 27 w) = nI 0
        · rw [if_pos hf]
          exact ih (w + 1) n (by omega) (by omega) (by rw [e1]; simp [gvnW, hf])
        · rw [if_neg hf, yes (by simp [gvnW, hs, hcol, hf])]
          rfl
      · rw [if_neg hcol]
        exact ih (w + 1) n (by omega) (by omega) (by rw [e1]; simp [gvnW, hcol])
theorem isGiven_eq {a p : Nat} (hfu : 5000 ≤ fu) (hD : DR M m) (hG : DG m nS nL nC nO) (hi : i < 3) (hp : p < 4) (h4 : M (a + 4) p = nI c.1) (h5 : M (a + 5) p = c.2.1) (h6 : M (a + 6) p = c.2.2) : f_X5_isGiven fu a (nI p) (nI i) M = some (bI (gvn m i nC c)) := isGivenL hD hG hi hp h4 h5 h6 nC 0 fu (by omega) (by have := hG.2.2.1.2; omega) rfl
theorem servCL {a : Nat} (hfu : 5000 ≤ fu) (hD : DR M m) (hG : DG m nS nL nC nO) (hi : i < 3) (hE : EC1 M a E) : ∀ d p n, p + d = E.2.2.2.2.2.1.length → d < n → al (gvnK m i nC E.2.2.2.2.2.1) p = true → f_X5_servesConditions_L2 fu a (nI i) M n (nI p) = some (bI (al (gvnK m i nC E.2.2.2.2.2.1) E.2.2.2.2.2.1.length)) := by
  obtain ⟨_, _, q1, q2, q3⟩ := hE
  intro d
  induction d with
  | zero =>
    intro p n h1 h2 hw
    obtain ⟨n, rfl⟩ := fu1 h2
    obtain rfl : p = E.2.2.2.2.2.1.length := by omega
    simp (disch := omega) only [f_X5_servesConditions_L2, q1, lit, nI_add, pk_mul, pk_sub, nI_clamp, inb_nI, nI_leI, nI_ltI, nI_eq, add_m1, ↓reduceIte, grd_true, nm_d, jn_d, bd_some, bm_some, om_some, om_none, Nat.le_refl, hw]
    rfl
  | succ d ih =>
    intro p n h1 h2 hw
    obtain ⟨n, rfl⟩ := fu1 h2
    have h3 : ¬ E.2.2.2.2.2.1.length ≤ p := by omega
    obtain ⟨c, hc⟩ := gl_ex (L := E.2.2.2.2.2.1) (i := p) (by omega)
    obtain ⟨e4, e5, e6⟩ := q3 p c hc
    have e1 : al (gvnK m i nC E.2.2.2.2.2.1) (p + 1) = gvn m i nC c := by simp [al, hw, gvnK, hc]
    simp (disch := omega) only [f_X5_servesConditions_L2, q1, lit, nI_add, pk_mul, pk_sub, nI_clamp, inb_nI, nI_leI, nI_ltI, nI_eq, add_m1, ↓reduceIte, grd_true, nm_d, jn_d, bd_some, bm_some, om_some, om_none, h3, isGiven_eq (fu := fu) hfu hD hG hi (show p < 4 by omega) e4 e5 e6, bI_0]
    cases hg : gvn m i nC c with
    | false =>
      rw [if_pos rfl, al_f (k := p) (by simp [gvnK, hc, hg]) (by omega)]
      rfl
    | true =>
      rw [if_neg (by decide)]
      exact ih (p + 1) n (by omega) (by omega) (by rw [e1, hg])
theorem servC_eq {a : Nat} (hfu : 5000 ≤ fu) (hD : DR M m) (hG : DG m nS nL nC nO) (hi : i < 3) (hE : EC1 M a E) : f_X5_servesConditions fu a (nI i) M = some (bI (al (gvnK m i nC E.2.2.2.2.2.1) E.2.2.2.2.2.1.length)) := servCL hfu hD hG hi hE E.2.2.2.2.2.1.length 0 fu (by omega) (by have := hE.2.2.2.1; omega) rfl
theorem servingL {id : Nat → Nat} (hfu : 5000 ≤ fu) (hD : DR M m) (hG : DG m nS nL nC nO) (hi : i < 3) (hs : m 19 i = nI s) (hs6 : s < 6) (hT : M 1 0 = nI t) (h : ECi M id L) : ∀ p n, p ≤ L.length → p < n → f_X3_serving_L8 fu (nI i) (nI fr) M n (nI p + -nI 1) = some ((lst (srvK m i nC s t fr L) p).map id) := by
  obtain ⟨⟨a1, a2, a3⟩, a4, a5, a6⟩ := h
  have hsrc : M 81 i = nI s := by rw [hD.2.1.1]; exact hs
  intro p
  induction p with
  | zero =>
    intro n h1 h2
    obtain ⟨n, rfl⟩ := fu1 h2
    have : nI 0 + -nI 1 < (0 : Int32) := by decide
    simp only [f_X3_serving_L8, this, ↓reduceIte, lst, Option.map_none]
  | succ p ih =>
    intro n h1 h2
    obtain ⟨n, rfl⟩ := fu1 h2
    obtain ⟨E, hE⟩ := gl_ex (L := L) (i := p) (by omega)
    have e1 := a6 p E hE
    have hk := a1 p (by omega)
    have hkb := kid_b hk
    obtain ⟨⟨b1, b2, b3, b4, b5, b6, b7⟩, _⟩ := (show _ ∧ _ from e1)
    have a3p := a3 p (by omega)
    have hsk : srvK m i nC s t fr L p = srv m i nC s t fr E := by simp [srvK, hE]
    have ih' := ih n (by omega) (by omega)
    have e9 : nI (p + 1) + -nI 1 = nI p := by rw [add_m1 (by omega)]; rfl
    rw [e9]
    simp (disch := omega) only [f_X3_serving_L8, lit, nI_add, pk_mul, pk_sub, nI_clamp, inb_nI, nI_leI, nI_ltI, nI_eq, add_m1, ↓reduceIte, grd_true, nm_d, jn_d, bd_some, bm_some, om_some, om_none, Nat.not_lt_zero, a3p, kid_kb hk, b1, hsrc, hT, b4, servC_eq hfu hD hG hi e1, bI_0]
    have e10 : nI p + -nI 1 = nI p + -nI 1 := rfl
    simp only [lst, hsk, srv]
    by_cases h7 : E.1 = s
    · by_cases h8 : nI fr < nI t - E.2.1
      · rw [if_pos h7, if_pos h8]
        simp only [h7, h8, not_true, decide_true, decide_false, Bool.and_false, Bool.false_and]
        rw [if_neg (by decide)]
        exact ih'
      · rw [if_pos h7, if_neg h8]
        cases h9 : al (gvnK m i nC E.2.2.2.2.2.1) E.2.2.2.2.2.1.length with
        | false =>
          rw [if_pos rfl]
          simp only [Bool.and_false]
          rw [if_neg (by decide)]
          exact ih'
        | true =>
          rw [if_neg (by decide)]
          simp [h7, h8]
    · rw [if_neg h7]
      simp only [h7, decide_false, Bool.false_and]
      rw [if_neg (by decide)]
      exact ih'
theorem serving_eq (hfu : 5000 ≤ fu) (hD : DR M m) (hG : DG m nS nL nC nO) (hi : i < 3) (hs : m 19 i = nI s) (hs6 : s < 6) (hT : M 1 0 = nI t) {id : Nat → Nat} (h : ECi M id L) : f_X3_serving fu (nI i) (nI fr) M = some ((lst (srvK m i nC s t fr L) L.length).map id) := by
  have h6 := h.2.2.1
  have e := servingL (fr := fr) hfu hD hG hi hs hs6 hT h L.length fu (Nat.le_refl _) (by omega)
  have e2 : nI L.length - 1 = nI L.length + -nI 1 := Int32.sub_eq_add_neg _ _
  simp only [f_X3_serving, nm_d, h.2.1, e2]
  exact e
theorem canServe65 {x : Nat} (hG : DG m nS nL nC nO) (hi : i < 3) (hx : x < 24) (h4 : m 39 x = nI c.1) (h5 : m 40 x = c.2.1) (h6 : m 41 x = c.2.2) {k : Int32 → Option Int32} : ∀ d w n, w + d = nC → d < n → f_X11_canServe_L65 fu (nI i) m (nI x) k n (bI (an (gvnW m i c) w)) (nI w) = k (bI (gvn m i nC c)) := by
  have hc := hG.2.2.1
  intro d
  induction d with
  | zero =>
    intro w n h1 h2
    obtain ⟨n, rfl⟩ := fu1 h2
    obtain rfl : w = nC := by omega
    simp (disch := omega) only [f_X11_canServe_L65, hc.1, lit, nI_add, pk_mul, pk_sub, nI_clamp, inb_nI, nI_leI, nI_ltI, nI_eq, add_m1, ↓reduceIte, grd_true, nm_d, jn_d, bd_some, bm_some, om_some, om_none, Nat.le_refl, gvn]
  | succ d ih =>
    intro w n h1 h2
    obtain ⟨n, rfl⟩ := fu1 h2
    have h3 : ¬ nC ≤ w := by omega
    have ih' := ih (w + 1) n (by omega) (by omega)
    simp only [an] at ih'
    have i1 : ¬ (nI 1 : Int32) = nI 0 := by decide
    simp (disch := omega) only [f_X11_canServe_L65, hc.1, lit, nI_add, pk_mul, pk_sub, nI_clamp, inb_nI, nI_leI, nI_ltI, nI_eq, add_m1, ↓reduceIte, grd_true, nm_d, jn_d, bd_some, bm_some, om_some, om_none, h3, sent_eq hi (show w < 4 by omega), bI_0, h4, h5, h6, st_fol, i1]
    cases ha : an (gvnW m i c) w with
    | true =>
      rw [ha] at ih'
      simp only [Bool.true_or] at ih'
      have e : (bI true) = nI 1 := rfl
      rw [e] at ih'
      cases hs : snt m i w with
      | false => rw [if_pos rfl]; simp only [ih', ite_self, Bool.true_eq_false, ↓reduceIte]
      | true =>
        rw [if_neg (by decide)]
        simp only [ih', ite_self, Bool.true_eq_false, ↓reduceIte]
    | false =>
      rw [ha] at ih'
      simp only [Bool.false_or, gvnW] at ih'
      cases hs : snt m i w with
      | false =>
        rw [hs] at ih'
        simp only [↓reduceIte]
        exact ih'
      | true =>
        rw [hs] at ih'
        by_cases hcol : m 25 w = nI c.1
        · by_cases hf : f_X10_follows c.2.1 c.2.2 (m 26 w) (m 27 w) = nI 0
          · simp only [hcol, hf, decide_true, Bool.true_and, Bool.not_true] at ih'
            simp only [hcol, hf, ↓reduceIte, Bool.true_eq_false]
            exact ih'
          · simp only [hcol, hf, decide_true, decide_false, Bool.true_and, Bool.not_false] at ih'
            simp only [hcol, hf, ↓reduceIte, Bool.true_eq_false]
            exact ih'
        · simp only [hcol, decide_false, Bool.true_and, Bool.false_and] at ih'
          simp only [hcol, ↓reduceIte, Bool.true_eq_false]
          exact ih'
theorem canServe44 {e : Nat} (he : e < 6) (hfu : 5000 ≤ fu) (hG : DG m nS nL nC nO) (hi : i < 3) (hE : EM1 m e E) : ∀ d p n (b : Bool), p + d = E.2.2.2.2.2.1.length → d < n → f_X11_canServe_L44 fu (nI e) (nI i) m n (bI (b && al (gvnK m i nC E.2.2.2.2.2.1) p)) (nI (4 * e + p)) = some (bI (b && al (gvnK m i nC E.2.2.2.2.2.1) E.2.2.2.2.2.1.length)) := by
  obtain ⟨_, _, q1, q2, q3⟩ := hE
  intro d
  induction d with
  | zero =>
    intro p n b h1 h2
    obtain ⟨n, rfl⟩ := fu1 h2
    obtain rfl : p = E.2.2.2.2.2.1.length := by omega
    simp (disch := omega) only [f_X11_canServe_L44, q1, lit, nI_add, pk_mul, pk_sub, nI_clamp, inb_nI, nI_leI, nI_ltI, nI_eq, add_m1, ↓reduceIte, grd_true, nm_d, jn_d, bd_some, bm_some, om_some, om_none, Nat.le_refl, isb_bI]
  | succ d ih =>
    intro p n b h1 h2
    obtain ⟨n, rfl⟩ := fu1 h2
    have h3 : ¬ 4 * e + E.2.2.2.2.2.1.length ≤ 4 * e + p := by omega
    obtain ⟨c, hc⟩ := gl_ex (L := E.2.2.2.2.2.1) (i := p) (by omega)
    obtain ⟨e4, e5, e6⟩ := q3 p c hc
    have hl := gl_lt hc
    have ih' := ih (p + 1) n b (by omega) (by omega)
    have e1 : al (gvnK m i nC E.2.2.2.2.2.1) (p + 1) = (al (gvnK m i nC E.2.2.2.2.2.1) p && gvn m i nC c) := by simp [al, gvnK, hc]
    rw [e1] at ih'
    have e65 := fun k => canServe65 (fu := fu) (k := k) hG hi (show 4 * e + p < 24 by omega) e4 e5 e6 nC 0 fu (by omega) (by have := hG.2.2.1.2; omega)
    have e0 : bI (an (gvnW m i c) 0) = nI 0 := rfl
    rw [e0] at e65
    simp (disch := omega) only [f_X11_canServe_L44, q1, lit, nI_add, pk_mul, pk_sub, nI_clamp, inb_nI, nI_leI, nI_ltI, nI_eq, add_m1, ↓reduceIte, grd_true, nm_d, jn_d, bd_some, bm_some, om_some, om_none, h3, e65, bI_0]
    rw [show 4 * e + (p + 1) = 4 * e + p + 1 by omega] at ih'
    cases hb : (b && al (gvnK m i nC E.2.2.2.2.2.1) p) with
    | false =>
      have : (b && (al (gvnK m i nC E.2.2.2.2.2.1) p && gvn m i nC c)) = false := by rw [← Bool.and_assoc, hb]; rfl
      rw [this] at ih'
      rw [if_pos rfl]
      exact ih'
    | true =>
      rw [if_neg (by decide)]
      cases hg : gvn m i nC c with
      | false =>
        have : (b && (al (gvnK m i nC E.2.2.2.2.2.1) p && gvn m i nC c)) = false := by rw [← Bool.and_assoc, hb, hg]; rfl
        rw [this] at ih'
        rw [if_pos rfl]
        exact ih'
      | true =>
        have : (b && (al (gvnK m i nC E.2.2.2.2.2.1) p && gvn m i nC c)) = true := by rw [← Bool.and_assoc, hb, hg]; rfl
        rw [this] at ih'
        rw [if_neg (by decide)]
        exact ih'
theorem canServe_eq {e : Nat} (he : e < 6) (hfu : 5000 ≤ fu) (hG : DG m nS nL nC nO) (hi : i < 3) (hs : m 19 i = nI s) (hs6 : s < 6) (hT : m 0 8 = nI t) (hF : m 0 53 = nI fr) (hE : EM1 m e E) : f_X11_canServe fu (nI e) (nI i) m = some (bI (srv m i nC s t fr E)) := by
  have h44 := canServe44 he hfu hG hi hE E.2.2.2.2.2.1.length 0 fu (decide (E.1 = s) && decide (¬ (nI fr < nI t - E.2.1))) (by omega) (by have := hE.2.2.2.1; omega)
  obtain ⟨⟨b1, b2, b3, b4, b5, b6⟩, _⟩ := (show _ ∧ _ from hE)
  simp only [al, Bool.and_true, Nat.add_zero] at h44
  have e1 : (if E.1 = s then (if nI fr < nI t - E.2.1 then nI 0 else nI 1) else nI 0) = bI (decide (E.1 = s) && decide (¬ (nI fr < nI t - E.2.1))) := by
    by_cases h7 : E.1 = s
    · by_cases h8 : nI fr < nI t - E.2.1
      · simp [h7, h8]; rfl
      · simp [h7, h8]; rfl
    · simp [h7]; rfl
  simp (disch := omega) only [f_X11_canServe, lit, nI_add, pk_mul, pk_sub, nI_clamp, inb_nI, nI_leI, nI_ltI, nI_eq, add_m1, ↓reduceIte, grd_true, nm_d, jn_d, bd_some, bm_some, om_some, om_none, b1, b3, hs, hT, hF, e1]
  exact h44
theorem entryForL (hfu : 5000 ≤ fu) (hG : DG m nS nL nC nO) (hi : i < 3) (hs : m 19 i = nI s) (hs6 : s < 6) (hT : m 0 8 = nI t) (hF : m 0 53 = nI fr) (h : EM m L) : ∀ d p n, p + d = L.length → d < n → f_X11_entryFor_L4 fu (nI i) m n (oI (lst (srvK m i nC s t fr L) p)) (nI p) = some (oI (lst (srvK m i nC s t fr L) L.length)) := by
  obtain ⟨a1, a2, a3⟩ := h
  intro d
  induction d with
  | zero =>
    intro p n h1 h2
    obtain ⟨n, rfl⟩ := fu1 h2
    obtain rfl : p = L.length := by omega
    simp (disch := omega) only [f_X11_entryFor_L4, a1, lit, nI_add, pk_mul, pk_sub, nI_clamp, inb_nI, nI_leI, nI_ltI, nI_eq, add_m1, ↓reduceIte, grd_true, nm_d, jn_d, bd_some, bm_some, om_some, om_none, Nat.le_refl]
  | succ d ih =>
    intro p n h1 h2
    obtain ⟨n, rfl⟩ := fu1 h2
    have h3 : ¬ L.length ≤ p := by omega
    obtain ⟨E, hE⟩ := gl_ex (L := L) (i := p) (by omega)
    have ih' := ih (p + 1) n (by omega) (by omega)
    have hsk : srvK m i nC s t fr L p = srv m i nC s t fr E := by simp [srvK, hE]
    simp only [lst, hsk] at ih'
    simp (disch := omega) only [f_X11_entryFor_L4, a1, lit, nI_add, pk_mul, pk_sub, nI_clamp, inb_nI, nI_leI, nI_ltI, nI_eq, add_m1, ↓reduceIte, grd_true, nm_d, jn_d, bd_some, bm_some, om_some, om_none, h3, canServe_eq (show p < 6 by omega) hfu hG hi hs hs6 hT hF (a3 p E hE), bI_0]
    cases hb : srv m i nC s t fr E with
    | false =>
      rw [hb] at ih'
      rw [if_pos rfl]
      exact ih'
    | true =>
      rw [hb] at ih'
      rw [if_neg (by decide)]
      exact ih'
theorem entryFor_eq (hfu : 5000 ≤ fu) (hG : DG m nS nL nC nO) (hi : i < 3) (hs : m 19 i = nI s) (hs6 : s < 6) (hT : m 0 8 = nI t) (hF : m 0 53 = nI fr) (h : EM m L) : f_X11_entryFor fu (nI i) m = some (oI (lst (srvK m i nC s t fr L) L.length)) := entryForL hfu hG hi hs hs6 hT hF h L.length 0 fu (by omega) (by have := h.2.1; omega)
end Serve
