/-! ===== an entry that serves; when rows are right; links; guesses ===== -/
section EntryL
variable {fu t u s i j e w g fr nS nL nC nO p : Nat} {M m N n : Mem} {R A : List Row} {RR : Nat → List Row} {L : List Ent} {E : Ent} {C : List Con} {c : Con} {sr kt : Nat → Nat} {tk : Nat → Bool}
theorem ec_nat (h : okn c) : ∃ k x, k ≤ 4 ∧ c.2.1 = nI k ∧ 1 ≤ x ∧ x ≤ 1999 ∧ c.2.2 + 1000 = nI x ∧ nI x - 1000 = c.2.2 ∧ ec c = nI (1 + 2 * k + 16 * c.1 + 64 * x) := by
  obtain ⟨h1, ⟨k, k1, k2⟩, h3, h4⟩ := h
  obtain ⟨e1, e2, e3, e4⟩ := cd_num h3 h4
  have a1 : -999 ≤ c.2.2.toInt := by rw [i_le] at h3; exact h3
  have a2 : c.2.2.toInt ≤ 999 := by rw [i_le] at h4; exact h4
  refine ⟨k, cd c.2.2, k1, k2, by omega, by omega, e1, e4, ?_⟩
  unfold ec
  rw [e1, k2, show (1 : Int32) = nI 1 from rfl, show (2 : Int32) = nI 2 from rfl, show (16 : Int32) = nI 16 from rfl, show (64 : Int32) = nI 64 from rfl, pk_mul, pk_mul, pk_mul, nI_add, nI_add, nI_add]
  congr 1
  omega
theorem ec_ne (h : okn c) : ¬ ec c = 0 := by
  obtain ⟨k, x, k1, k2, x1, x2, x3, x4, x5⟩ := ec_nat h
  have := h.1
  rw [x5]
  exact nI_ne0 (by omega) (by omega)
theorem lfollows (h : okn c) {a b d : Int32} : (f_L_follows (ec c) a b d = 0) = ¬ (b = nI c.1 ∧ ¬ f_X10_follows c.2.1 c.2.2 a d = nI 0) := by
  obtain ⟨k, x, k1, k2, x1, x2, x3, x4, x5⟩ := ec_nat h
  have h1 := h.1
  have e1 : (ec c >>> (1 &&& 31)) &&& 7 = nI k := by
    rw [x5, show ((1 : Int32) &&& 31) = 1 by decide, pk_shrN (by omega) 1 1 (by decide), pk_andN (by omega) 3 (by decide)]
    congr 1
    omega
  have e2 : (ec c >>> (6 &&& 31)) - 1000 = c.2.2 := by
    rw [x5, show ((6 : Int32) &&& 31) = 6 by decide, pk_shrN (by omega) 6 6 (by decide), show (1 + 2 * k + 16 * c.1 + 64 * x) / 2 ^ 6 = x by omega]
    exact x4
  have e3 : (ec c >>> (4 &&& 31)) &&& 3 = nI c.1 := by
    rw [x5, show ((4 : Int32) &&& 31) = 4 by decide, pk_shrN (by omega) 4 4 (by decide), pk_andN (by omega) 2 (by decide)]
    congr 1
    omega
  have h5 : k = 0 ∨ k = 1 ∨ k = 2 ∨ k = 3 ∨ k = 4 := by omega
  simp only [f_L_follows, f_X10_follows, nm_d, jn_d, e1, e2, e3, k2]
  generalize c.2.2 = z
  rw [show nI 0 = (0 : Int32) from rfl]
  by_cases hb : nI c.1 = b
  · rw [if_pos hb]
    simp only [hb.symm, true_and]
    rcases h5 with rfl | rfl | rfl | rfl | rfl
    all_goals simp (decide := true) only [show nI 0 = (0 : Int32) from rfl, show nI 1 = (1 : Int32) from rfl, show nI 2 = (2 : Int32) from rfl, show nI 3 = (3 : Int32) from rfl, show nI 4 = (4 : Int32) from rfl, if_true, if_false]
    all_goals grind
  · rw [if_neg hb]
    have : ¬ b = nI c.1 := fun z => hb z.symm
    simp [this]
theorem ent92 {k169 : Int32 → Option Int32} (hfu : 5000 ≤ fu) (hi : i < nS) (hD : DL M m nS nL nC nO) (hG : DG m nS nL nC nO) {x : Nat} (hx : x < 8) (he : e < 6) (hM : M 147 (8 * e + x) = ec c) (hc : okn c) : ∀ d w n, w + d = nC → d < n → f_L_entry_L92 fu (nI i) M (nI e) (nI x) k169 n (bI (an (gvnW m i c) w)) (nI w) = k169 (bI (gvn m i nC c)) := by
  have hC := hG.2.2.1.2
  intro d
  induction d with
  | zero =>
    intro w n h1 h2
    obtain ⟨n, rfl⟩ := fu1 h2
    obtain rfl : w = nC := by omega
    simp (disch := omega) only [f_L_entry_L92, hD.1.2.2.1, nI_leI, Nat.le_refl, if_true, gvn]
  | succ d ih =>
    intro w n h1 h2
    obtain ⟨n, rfl⟩ := fu1 h2
    have h6 : ¬ nC ≤ w := by omega
    have hse := lsent_eq hfu hD hG hi (show w < nC by omega)
    obtain ⟨a1, a2, a3, a4, _⟩ := hD.2.2.2.1 w (by omega)
    have e2 : (22 : Int32) + 4 * nI w = nI (22 + 4 * w) := by rw [show (4 : Int32) = nI 4 from rfl, show (22 : Int32) = nI 22 from rfl, pk_mul, nI_add]
    have e3 : (23 : Int32) + 4 * nI w = nI (23 + 4 * w) := by rw [show (4 : Int32) = nI 4 from rfl, show (23 : Int32) = nI 23 from rfl, pk_mul, nI_add]
    have e4 : (24 : Int32) + 4 * nI w = nI (24 + 4 * w) := by rw [show (4 : Int32) = nI 4 from rfl, show (24 : Int32) = nI 24 from rfl, pk_mul, nI_add]
    have e5 : (8 : Int32) * nI e + nI x = nI (8 * e + x) := by rw [show (8 : Int32) = nI 8 from rfl, pk_mul, nI_add]
    have hfo := lfollows hc (a := m 26 w) (b := m 25 w) (d := m 27 w)
    simp (disch := omega) only [f_L_entry_L92, hD.1.2.2.1, nI_leI, h6, if_false, hse, bd_some, bI_nz, e2, e3, e4, e5, inb_nI, grd_true, nI_clamp, nm_d, jn_d, nI_1, a2, a3, a4, hM, hfo]
    have key : ∀ b : Bool, b = gvnW m i c w → f_L_entry_L92 fu (nI i) M (nI e) (nI x) k169 n (bI (an (gvnW m i c) w) ||| bI b) (nI (w + 1)) = k169 (bI (gvn m i nC c)) := fun b hb => by
      have : bI (an (gvnW m i c) w) ||| bI b = bI (an (gvnW m i c) (w + 1)) := by
        simp only [an, ← hb]
        cases an (gvnW m i c) w <;> cases b <;> decide
      rw [this]
      exact ih (w + 1) n (by omega) (by omega)
    by_cases hs : snt m i w = false
    · rw [if_pos hs]
      exact key false (by simp [gvnW, hs])
    · rw [if_neg hs]
      have hs' : snt m i w = true := by simpa using hs
      by_cases h7 : m 25 w = nI c.1 ∧ ¬ f_X10_follows c.2.1 c.2.2 (m 26 w) (m 27 w) = nI 0
      · rw [if_neg (by simpa using h7)]
        exact key true (by simp [gvnW, hs', h7.1, h7.2])
      · rw [if_pos h7]
        refine key false ?_
        simp only [gvnW, hs', Bool.true_and]
        by_cases h8 : m 25 w = nI c.1
        · have h9 : f_X10_follows c.2.1 c.2.2 (m 26 w) (m 27 w) = nI 0 := by
            by_cases h10 : f_X10_follows c.2.1 c.2.2 (m 26 w) (m 27 w) = nI 0
            · exact h10
            · exact absurd ⟨h8, h10⟩ h7
          simp [h9]
        · simp [h8]
theorem ent57 {k179 : Int32 → Option Int32} (hfu : 5000 ≤ fu) (hi : i < nS) (hD : DL M m nS nL nC nO) (hG : DG m nS nL nC nO) (he : e < 6) (hC4 : C.length ≤ 4) (hok : ∀ c ∈ C, okn c) (hM : ∀ p, p < 4 → M 147 (8 * e + 4 + p) = enc C p) : ∀ d p n (b : Bool), p + d = 4 → d < n → f_L_entry_L57 fu (nI i) M (nI e) k179 n (bI (b && al (gvnK m i nC C) (min p C.length))) (nI (4 + p)) = k179 (bI (b && al (gvnK m i nC C) C.length)) := by
  intro d
  induction d with
  | zero =>
    intro p n b h1 h2
    obtain ⟨n, rfl⟩ := fu1 h2
    obtain rfl : p = 4 := by omega
    simp (disch := omega) only [f_L_entry_L57, lit, nI_add, pk_mul, pk_sub, nI_clamp, inb_nI, nI_leI, nI_ltI, nI_eq, add_m1, ↓reduceIte, grd_true, nm_d, jn_d, bd_some, bm_some, om_some, om_none, Nat.le_refl]
    rw [show min 4 C.length = C.length by omega]
  | succ d ih =>
    intro p n b h1 h2
    obtain ⟨n, rfl⟩ := fu1 h2
    have h5 : ¬ 8 ≤ 4 + p := by omega
    have e5 : (8 : Int32) * nI e + nI (4 + p) = nI (8 * e + (4 + p)) := by rw [show (8 : Int32) = nI 8 from rfl, pk_mul, nI_add]
    have hv : M 147 (8 * e + (4 + p)) = enc C p := by rw [← hM p (by omega)]; congr 1; omega
    have h81 : ¬ (8 : Int32) ≤ nI (4 + p) := fun z => by
      have : nI 8 ≤ nI (4 + p) := z
      rw [nI_leI (by omega) (by omega)] at this
      omega
    simp (disch := omega) only [f_L_entry_L57, h81, if_false, e5, inb_nI, grd_true, nI_clamp, nm_d, jn_d, nI_1, hv, bI_nz]
    by_cases hz : (b && al (gvnK m i nC C) (min p C.length)) = false
    · rw [if_pos hz]
      have : (b && al (gvnK m i nC C) C.length) = false := by
        cases b with
        | false => rfl
        | true =>
          simp only [Bool.true_and] at hz ⊢
          cases h7 : al (gvnK m i nC C) C.length with
          | false => rfl
          | true =>
            have := al_lt h7
            have h8 : al (gvnK m i nC C) (min p C.length) = true := by
              have : ∀ q, q ≤ C.length → al (gvnK m i nC C) q = true := fun q => by
                induction q with
                | zero => intro _; rfl
                | succ q ih2 => intro hq; simp only [al, ih2 (by omega), this q (by omega), Bool.and_self]
              exact this _ (by omega)
            rw [h8] at hz
            cases hz
      rw [this, hz]
    · rw [if_neg hz]
      have hz' : (b && al (gvnK m i nC C) (min p C.length)) = true := by simpa using hz
      by_cases hp : p < C.length
      · obtain ⟨c, hc⟩ : ∃ c, C[p]? = some c := ⟨_, List.getElem?_eq_getElem hp⟩
        have hcok := hok c (List.mem_of_getElem? hc)
        have hen : enc C p = ec c := by simp only [enc, hc]
        have := ent92 (fu := fu) (k169 := fun x7_20 => f_L_entry_L57 fu (nI i) M (nI e) k179 n x7_20 (nI (4 + p + 1))) hfu hi hD hG (show 4 + p < 8 by omega) he (by rw [hv, hen]) hcok nC 0 fu (by omega) (by have := hG.2.2.1.2; omega)
        rw [hen, if_neg (ec_ne hcok)]
        refine Eq.trans this ?_
        have e6 : gvn m i nC c = (b && al (gvnK m i nC C) (min (p + 1) C.length)) := by
          rw [show min (p + 1) C.length = p + 1 by omega]
          rw [show min p C.length = p by omega] at hz'
          simp only [Bool.and_eq_true] at hz'
          simp only [al, hz'.1, hz'.2, Bool.true_and, gvnK, hc]
        rw [e6]
        exact ih (p + 1) n b (by omega) (by omega)
      · have hen : enc C p = 0 := by simp only [enc]; rw [List.getElem?_eq_none (by omega)]
        rw [hen, if_pos rfl]
        have hone : ∀ d w n, w + d = nC → d < n → f_L_entry_L92 fu (nI i) M (nI e) (nI (4 + p)) (fun x7_20 => f_L_entry_L57 fu (nI i) M (nI e) k179 n x7_20 (nI (4 + p + 1))) n 1 (nI w) = f_L_entry_L57 fu (nI i) M (nI e) k179 n 1 (nI (4 + p + 1)) ∨ True := fun _ _ _ _ _ => Or.inr trivial
        clear hone
        have hC := hG.2.2.1.2
        have hone : ∀ d w q, w + d = nC → d < q → f_L_entry_L92 fu (nI i) M (nI e) (nI (4 + p)) (fun x7_20 => f_L_entry_L57 fu (nI i) M (nI e) k179 n x7_20 (nI (4 + p + 1))) q 1 (nI w) = f_L_entry_L57 fu (nI i) M (nI e) k179 n 1 (nI (4 + p + 1)) := by
          intro d
          induction d with
          | zero =>
            intro w q g1 g2
            obtain ⟨q, rfl⟩ := fu1 g2
            obtain rfl : w = nC := by omega
            simp (disch := omega) only [f_L_entry_L92, hD.1.2.2.1, nI_leI, Nat.le_refl, if_true]
          | succ d ih2 =>
            intro w q g1 g2
            obtain ⟨q, rfl⟩ := fu1 g2
            have h6 : ¬ nC ≤ w := by omega
            have hse := lsent_eq hfu hD hG hi (show w < nC by omega)
            have e2 : (22 : Int32) + 4 * nI w = nI (22 + 4 * w) := by rw [show (4 : Int32) = nI 4 from rfl, show (22 : Int32) = nI 22 from rfl, pk_mul, nI_add]
            have e3 : (23 : Int32) + 4 * nI w = nI (23 + 4 * w) := by rw [show (4 : Int32) = nI 4 from rfl, show (23 : Int32) = nI 23 from rfl, pk_mul, nI_add]
            have e4 : (24 : Int32) + 4 * nI w = nI (24 + 4 * w) := by rw [show (4 : Int32) = nI 4 from rfl, show (24 : Int32) = nI 24 from rfl, pk_mul, nI_add]
            simp (disch := omega) only [f_L_entry_L92, hD.1.2.2.1, nI_leI, h6, if_false, hse, bd_some, bI_nz, e2, e3, e4, e5, inb_nI, grd_true, nI_clamp, nm_d, jn_d, nI_1]
            rw [show ((1 : Int32) ||| 0) = 1 by decide, show ((1 : Int32) ||| 1) = 1 by decide]
            simp only [ih2 (w + 1) q (by omega) (by omega), ite_self]
        refine Eq.trans (hone nC 0 fu (by omega) (by omega)) ?_
        have hm : min p C.length = C.length := by omega
        rw [hm] at hz'
        have := ih (p + 1) n b (by omega) (by omega)
        rw [show min (p + 1) C.length = C.length by omega, hz'] at this
        rw [hz']
        exact this
theorem ent7 (hfu : 5000 ≤ fu) (hi : i < nS) (hD : DL M m nS nL nC nO) (hG : DG m nS nL nC nO) (hs : m 19 i = nI s) (hs6 : s < 6) (hT : M 152 1 = nI t) (hF : M 152 5 = nI fr) (hL : LCk M u sr kt L) : ∀ p n, p ≤ L.length → p < n → f_L_entry_L7 fu (nI i) M n (nI p + -nI 1) = some (oI (lst (srvK m i nC s t fr L) p)) := by
  have hl6 := hL.2.1
  have hS3 := hG.1.2
  intro p
  induction p with
  | zero =>
    intro n h1 h2
    obtain ⟨n, rfl⟩ := fu1 h2
    have : nI 0 + -nI 1 < (0 : Int32) := by decide
    simp only [f_L_entry_L7, this, if_true, lst, oI]
    rfl
  | succ p ih =>
    intro n h1 h2
    obtain ⟨n, rfl⟩ := fu1 h2
    have e9 : nI (p + 1) + -nI 1 = nI p := by rw [add_m1 (by omega)]; rfl
    have h0 : ¬ nI p < (0 : Int32) := nI_pos (by omega)
    obtain ⟨E, hE⟩ := gl_ex (L := L) (i := p) (by omega)
    obtain ⟨g, g1, ⟨a1, a2, a3, a4, a5⟩, ⟨b1, b2⟩, c1, c2, c3, c4, c5, c6, c7⟩ := hL.2.2 p E hE
    have e1 : (8 : Int32) * nI p = nI (8 * p) := pk_mul 8 p
    have e6 : (6 : Int32) + nI i = nI (6 + i) := nI_add 6 i
    have e7 : nI p + -1 = nI p + -nI 1 := rfl
    rw [e9]
    have h57 := fun (k179 : Int32 → Option Int32) (b : Bool) => ent57 (fu := fu) (k179 := k179) hfu hi hD hG (show p < 6 by omega) c5 c6 a5 4 0 fu b (by omega) (by omega)
    simp only [Nat.zero_min, al, Bool.and_true, Nat.add_zero] at h57
    have eq1 : (nI E.1 = nI s) = (E.1 = s) := propext (nI_eq (by omega) (by omega))
    simp (disch := omega) only [f_L_entry_L7, h0, if_false, e1, e6, inb_nI, grd_true, nI_clamp, nI_1, a1, a2, hD.2.1 i hi, hs, hT, hF, nm_d, jn_d, e7, eq1]
    have r0 := h57 (fun x5_9 => if x5_9 = 0 then f_L_entry_L7 fu (nI i) M n (nI p + -nI 1) else some (nI p)) false
    have r1 := h57 (fun x5_9 => if x5_9 = 0 then f_L_entry_L7 fu (nI i) M n (nI p + -nI 1) else some (nI p)) true
    have hlst : lst (srvK m i nC s t fr L) (p + 1) = if srv m i nC s t fr E = true then some p else lst (srvK m i nC s t fr L) p := by simp only [lst, srvK, hE]
    have fin : ∀ b : Bool, b = srv m i nC s t fr E → (if bI b = 0 then f_L_entry_L7 fu (nI i) M n (nI p + -nI 1) else some (nI p)) = some (oI (lst (srvK m i nC s t fr L) (p + 1))) := fun b hb => by
      rw [hlst, ← hb]
      cases b
      · rw [if_pos (show bI false = 0 from rfl), if_neg (by decide)]
        exact ih n (by omega) (by omega)
      · rw [if_neg (show ¬ bI true = 0 by decide), if_pos rfl]
        rfl
    by_cases z1 : E.1 = s
    · rw [if_pos z1]
      by_cases z2 : nI fr < nI t - E.2.1
      · rw [if_pos z2]
        refine Eq.trans r0 (fin _ ?_)
        simp [srv, z2]
      · rw [if_neg z2]
        refine Eq.trans r1 (fin _ ?_)
        simp [srv, z1, z2]
    · rw [if_neg z1]
      refine Eq.trans r0 (fin _ ?_)
      simp [srv, z1]
theorem lentry_eq (hfu : 5000 ≤ fu) (hi : i < nS) (hD : DL M m nS nL nC nO) (hG : DG m nS nL nC nO) (hs : m 19 i = nI s) (hs6 : s < 6) (hT : M 152 1 = nI t) (hF : M 152 5 = nI fr) (hL : LCk M u sr kt L) : f_L_entry fu (nI i) M = some (oI (lst (srvK m i nC s t fr L) L.length)) := by
  have := ent7 (fu := fu) hfu hi hD hG hs hs6 hT hF hL L.length fu (Nat.le_refl _) (by have := hL.2.1; omega)
  simp only [f_L_entry, nm_d, hL.1]
  rw [show nI L.length - 1 = nI L.length + -nI 1 from Int32.sub_eq_add_neg _ _]
  exact this
/-! when rows are right -/
theorem lw_ge {j : Nat} (h1 : 1 ≤ j) (h2 : sr j = s) : ∀ n, j ≤ n → j ≤ lw sr s n := by
  intro n
  induction n with
  | zero => intro h; omega
  | succ n ih =>
    intro h
    simp only [lw]
    split
    · exact h
    · by_cases hj : j = n + 1
      · subst hj; contradiction
      · exact ih (by omega)
theorem lw_sr {n : Nat} : lw sr s n = 0 ∨ sr (lw sr s n) = s := by
  induction n with
  | zero => exact Or.inl rfl
  | succ n ih =>
    simp only [lw]
    split
    · right; assumption
    · exact ih
theorem fw_up {x : Nat} : ∀ n, x < n → fw sr s x n = if sr (x + 1) = s then some (x + 1) else fw sr s (x + 1) n := by
  intro n
  induction n with
  | zero => intro h; omega
  | succ n ih =>
    intro h
    by_cases hx : x = n
    · subst hx
      have e : fw sr s x x = none := by
        cases hf : fw sr s x x with
        | none => rfl
        | some w => have := fw_in hf; omega
      have e2 : fw sr s (x + 1) x = none := by
        cases hf : fw sr s (x + 1) x with
        | none => rfl
        | some w => have := fw_in hf; omega
      simp only [fw, e, e2]
      by_cases h1 : sr (x + 1) = s
      · simp [h1]
      · simp [h1]
    · have := ih (by omega)
      simp only [fw]
      rw [this]
      by_cases h1 : sr (x + 1) = s
      · simp [h1]
      · simp only [h1, if_false]
        cases fw sr s (x + 1) n with
        | some w => rfl
        | none =>
          dsimp only
          by_cases h2 : sr (n + 1) = s
          · simp [h2, show x < n + 1 by omega, show x + 1 < n + 1 by omega]
          · simp [h2]
theorem rightL (hi : i < 3) (hs6 : s < 6) (hH : HIST M t u sr kt) (ht : t < 2 ^ 27) (hg : g ≤ u) : ∀ x n (N : Mem), x ≤ u → x < n → (∀ a, a ≠ 151 → N a = M a) → (∀ j, j ≠ 4 * i + 2 → j ≠ 4 * i + 3 → N 151 j = M 151 j) → N 151 (4 * i + 2) = nI (if x < lw sr s g then lw sr s g else 0) → N 151 (4 * i + 3) = nI (match fw sr s (max g x) u with | some w => w - 1 | none => u) →
    ∃ N', f_L_right_L23 fu (nI i) (nI s) (nI g) n (nI x) N = some N' ∧ (∀ a, a ≠ 151 → N' a = M a) ∧ (∀ j, j ≠ 4 * i + 2 → j ≠ 4 * i + 3 → N' 151 j = M 151 j) ∧ N' 151 (4 * i + 2) = nI (lw sr s g) ∧ N' 151 (4 * i + 3) = nI (match fw sr s g u with | some w => w - 1 | none => u) := by
  have hu := hH.2.1
  intro x
  induction x with
  | zero =>
    intro n N h0 h1 h2 h3 h4 h5
    obtain ⟨n, rfl⟩ := fu1 h1
    refine ⟨N, ?_, h2, h3, ?_, by rw [h5, Nat.max_zero]⟩
    · simp only [f_L_right_L23]
      rw [if_pos (show nI 0 ≤ 0 by decide)]
    · rw [h4]
      by_cases hz : 0 < lw sr s g
      · rw [if_pos hz]
      · rw [if_neg hz]; congr 1; omega
  | succ x ih =>
    intro n N h0 h1 h2 h3 h4 h5
    obtain ⟨n, rfl⟩ := fu1 h1
    obtain ⟨e1, e2, e3⟩ := hH.2.2 (x + 1) (by omega) h0
    have hx0 : ¬ nI (x + 1) ≤ (0 : Int32) := fun z => by
      have : nI (x + 1) ≤ nI 0 := z
      rw [nI_leI (by omega) (by omega)] at this
      omega
    have e4 : nI (sr (x + 1) + 8 * kt (x + 1)) &&& 7 = nI (sr (x + 1)) := by
      rw [pk_andN (by omega) 3 (by decide)]
      congr 1
      omega
    have e5 : (4 : Int32) * nI i + 2 = nI (4 * i + 2) := by rw [show (4 : Int32) = nI 4 from rfl, show (2 : Int32) = nI 2 from rfl, pk_mul, nI_add]
    have e6 : (4 : Int32) * nI i + 3 = nI (4 * i + 3) := by rw [show (4 : Int32) = nI 4 from rfl, show (3 : Int32) = nI 3 from rfl, pk_mul, nI_add]
    have e7 : nI (x + 1) + -1 = nI x := pk_m1 x
    have e8 : nI (x + 1) - 1 = nI x := nI_pred x
    have hlw0 : lw sr s g ≤ g := lw_le
    have hz0 : (nI (if x + 1 < lw sr s g then lw sr s g else 0) = 0) = (¬ x + 1 < lw sr s g) := by
      by_cases hz : x + 1 < lw sr s g
      · rw [if_pos hz]
        exact propext ⟨fun z => absurd z (nI_ne0 (by omega) (by omega)), fun z => absurd hz z⟩
      · rw [if_neg hz]
        exact propext ⟨fun _ => hz, fun _ => rfl⟩
    simp (disch := omega) only [f_L_right_L23, hx0, if_false, inb_nI, grd_true, nI_clamp, h2 144 (by omega), e1, e4, nI_eq, nI_leI, e5, e6, e7, e8, nm_d, h4, hz0]
    by_cases hs : sr (x + 1) = s
    · rw [if_pos hs]
      by_cases hxg : x + 1 ≤ g
      · rw [if_pos hxg]
        have hge := lw_ge (sr := sr) (s := s) (by omega) hs g hxg
        by_cases hl : x + 1 < lw sr s g
        · rw [if_neg (by simpa using hl)]
          refine ih n N (by omega) (by omega) h2 h3 (by rw [h4, if_pos hl, if_pos (by omega)]) (by rw [h5, show max g (x + 1) = g by omega, show max g x = g by omega])
        · rw [if_pos hl]
          refine ih n _ (by omega) (by omega) (fun a ha => by rw [up_n ha, h2 a ha]) (fun j j1 j2 => by rw [up_m j1, h3 j j1 j2]) ?_ (by rw [up_m (by omega), h5, show max g (x + 1) = g by omega, show max g x = g by omega])
          rw [up_s, if_pos (by omega)]
          congr 1
          omega
      · rw [if_neg hxg]
        refine ih n _ (by omega) (by omega) (fun a ha => by rw [up_n ha, h2 a ha]) (fun j j1 j2 => by rw [up_m j2, h3 j j1 j2]) ?_ ?_
        · rw [up_m (by omega), h4, if_neg (by omega), if_neg (by omega)]
        · rw [up_s, show max g x = x by omega, fw_up u (by omega), if_pos hs]
          rfl
    · rw [if_neg hs]
      refine ih n N (by omega) (by omega) h2 h3 ?_ ?_
      · rw [h4]
        have : ¬ lw sr s g = x + 1 := fun z => by
          rcases lw_sr (sr := sr) (s := s) (n := g) with h | h
          · omega
          · rw [z] at h; exact hs h
        by_cases hl : x + 1 < lw sr s g
        · rw [if_pos hl, if_pos (by omega)]
        · rw [if_neg hl, if_neg (by omega)]
      · rw [h5]
        by_cases hxg : x + 1 ≤ g
        · rw [show max g (x + 1) = g by omega, show max g x = g by omega]
        · rw [show max g (x + 1) = x + 1 by omega, show max g x = x by omega, fw_up (x := x) u (by omega), if_neg hs]
theorem right_L (hfu : 5000 ≤ fu) (hi : i < 3) (hs6 : s < 6) (hH : HIST M t u sr kt) (ht : t < 2 ^ 27) (hg : g ≤ u) : ∃ N', f_L_right fu (nI i) (nI s) (nI g) M = some N' ∧ (∀ a, a ≠ 151 → N' a = M a) ∧ (∀ j, j ≠ 4 * i + 2 → j ≠ 4 * i + 3 → N' 151 j = M 151 j) ∧ N' 151 (4 * i + 2) = nI (lw sr s g) ∧ N' 151 (4 * i + 3) = nI (match fw sr s g u with | some w => w - 1 | none => u) := by
  have e5 : (4 : Int32) * nI i + 2 = nI (4 * i + 2) := by rw [show (4 : Int32) = nI 4 from rfl, show (2 : Int32) = nI 2 from rfl, pk_mul, nI_add]
  have e6 : (4 : Int32) * nI i + 3 = nI (4 * i + 3) := by rw [show (4 : Int32) = nI 4 from rfl, show (3 : Int32) = nI 3 from rfl, pk_mul, nI_add]
  have hlw0 : lw sr s g ≤ g := lw_le
  let M1 := up (up M 151 (4 * i + 2) 0) 151 (4 * i + 3) (nI u)
  have o1 : ∀ a, a ≠ 151 → M1 a = M a := fun a ha => by show up (up M _ _ _) _ _ _ a = _; rw [up_n ha, up_n ha]
  have o2 : ∀ j, j ≠ 4 * i + 2 → j ≠ 4 * i + 3 → M1 151 j = M 151 j := fun j h1 h2 => by show up (up M _ _ _) _ _ _ 151 j = _; rw [up_m h2, up_m h1]
  have hH1 : HIST M1 t u sr kt := hH.cg (o1 144 (by omega)) (by rw [o1 152 (by omega)]) (Nat.le_refl _)
  have hn : fw sr s (max g u) u = none := by
    cases hf : fw sr s (max g u) u with
    | none => rfl
    | some w => have := fw_in hf; omega
  obtain ⟨N', a1, a2, a3, a4, a5⟩ := rightL (fu := fu) hi hs6 hH1 ht hg u fu M1 (Nat.le_refl _) (by have := hH.2.1; omega) (fun _ _ => rfl) (fun _ _ _ => rfl) (by
    show up (up M _ _ _) _ _ _ 151 (4 * i + 2) = _
    rw [up_m (by omega), up_s, if_neg (by omega)]; rfl) (by
    show up (up M _ _ _) _ _ _ 151 (4 * i + 3) = _
    rw [up_s, hn])
  refine ⟨N', ?_, fun a ha => by rw [a2 a ha, o1 a ha], fun j h1 h2 => by rw [a3 j h1 h2, o2 j h1 h2], a4, a5⟩
  simp (disch := omega) only [f_L_right, e5, e6, inb_nI, grd_true, nI_clamp, nm_d, up_n, hH.1]
  exact a1
end EntryL
