/-! ===== the row of all writes, and the law's entries ===== -/
/-- the last write of a source up to n -/
def lw (sr : Nat → Nat) (s : Nat) : Nat → Nat
  | 0 => 0
  | n + 1 => if sr (n + 1) = s then n + 1 else lw sr s n
/-- the first write of a source behind g, up to n -/
def fw (sr : Nat → Nat) (s g : Nat) : Nat → Option Nat
  | 0 => none
  | n + 1 => match fw sr s g n with
    | some i => some i
    | none => if g < n + 1 ∧ sr (n + 1) = s then some (n + 1) else none
/-- the least tick at which a write of a source behind g, up to n, is known -/
def mk (sr kt : Nat → Nat) (s g : Nat) : Nat → Option Nat
  | 0 => none
  | n + 1 => if g < n + 1 ∧ sr (n + 1) = s then some (match mk sr kt s g n with | some d => if kt (n + 1) < d then kt (n + 1) else d | none => kt (n + 1)) else mk sr kt s g n
def ec (c : Con) : Int32 := 1 + c.2.1 * 2 + nI c.1 * 16 + (c.2.2 + 1000) * 64
def enc (C : List Con) (i : Nat) : Int32 := match C[i]? with | some c => ec c | none => 0
def okn (c : Con) : Prop := c.1 < 4 ∧ (∃ k, k ≤ 4 ∧ c.2.1 = nI k) ∧ -999 ≤ c.2.2 ∧ c.2.2 ≤ 999
def LEnt (M : Mem) (k u : Nat) (sr kt : Nat → Nat) (E : Ent) : Prop :=
  ∃ g, g ≤ u ∧ (M 147 (8 * k) = nI E.1 ∧ M 147 (8 * k + 1) = E.2.1 ∧ M 147 (8 * k + 2) = nI g ∧ M 147 (8 * k + 3) = nI E.2.2.2.2.2.2.length ∧ ∀ i, i < 4 → M 147 (8 * k + 4 + i) = enc E.2.2.2.2.2.1 i) ∧ (E.2.2.2.2.2.2.length ≤ 10 ∧ ∀ i r, E.2.2.2.2.2.2[i]? = some r → lg (M 148) (10 * k + i) = pk r) ∧ E.2.2.1 = nI (lw sr E.1 g) ∧ E.2.2.2.1 = (fw sr E.1 g u).map (fun i => nI (i - 1)) ∧ E.2.2.2.2.1 = (mk sr kt E.1 g u).map nI ∧ okW E.2.2.2.2.2.2 ∧ E.2.2.2.2.2.1.length ≤ 4 ∧ (∀ c ∈ E.2.2.2.2.2.1, okn c) ∧ E.1 < 6
def LCk (M : Mem) (u : Nat) (sr kt : Nat → Nat) (L : List Ent) : Prop := M 152 3 = nI L.length ∧ L.length ≤ 6 ∧ ∀ k E, L[k]? = some E → LEnt M k u sr kt E
def HIST (M : Mem) (t u : Nat) (sr kt : Nat → Nat) : Prop := M 152 0 = nI u ∧ u < 64 ∧ ∀ i, 1 ≤ i → i ≤ u → M 144 i = nI (sr i + 8 * kt i) ∧ sr i < 6 ∧ kt i ≤ t + 60
section Hist
variable {fu k k' t u s g n : Nat} {M N : Mem} {sr kt sr' kt' : Nat → Nat} {L : List Ent} {E : Ent}
theorem lw_le : lw sr s n ≤ n := by
  induction n with
  | zero => exact Nat.le_refl 0
  | succ n ih => simp only [lw]; split <;> omega
theorem lw_cg (h : ∀ i, i ≤ n → sr' i = sr i) : lw sr' s n = lw sr s n := by
  induction n with
  | zero => rfl
  | succ n ih => simp only [lw, h (n + 1) (Nat.le_refl _), ih (fun i hi => h i (by omega))]
theorem fw_cg (h : ∀ i, i ≤ n → sr' i = sr i) : fw sr' s g n = fw sr s g n := by
  induction n with
  | zero => rfl
  | succ n ih => simp only [fw, h (n + 1) (Nat.le_refl _), ih (fun i hi => h i (by omega))]
theorem mk_cg (h : ∀ i, i ≤ n → sr' i = sr i) (h2 : ∀ i, i ≤ n → kt' i = kt i) : mk sr' kt' s g n = mk sr kt s g n := by
  induction n with
  | zero => rfl
  | succ n ih => simp only [mk, h (n + 1) (Nat.le_refl _), h2 (n + 1) (Nat.le_refl _), ih (fun i hi => h i (by omega)) (fun i hi => h2 i (by omega))]
theorem fw_in {i : Nat} (h : fw sr s g n = some i) : g < i ∧ i ≤ n ∧ sr i = s := by
  induction n with
  | zero => simp [fw] at h
  | succ n ih =>
    simp only [fw] at h
    cases h1 : fw sr s g n with
    | some j =>
      rw [h1] at h
      cases h
      have := ih h1
      exact ⟨this.1, by omega, this.2.2⟩
    | none =>
      rw [h1] at h
      dsimp only at h
      split at h
      · cases h
        rename_i h2
        exact ⟨h2.1, Nat.le_refl _, h2.2⟩
      · cases h
theorem mk_in {d : Nat} (h : mk sr kt s g n = some d) : ∃ i, g < i ∧ i ≤ n ∧ sr i = s ∧ kt i = d := by
  induction n generalizing d with
  | zero => simp [mk] at h
  | succ n ih =>
    simp only [mk] at h
    split at h
    · rename_i h2
      cases h1 : mk sr kt s g n with
      | none =>
        rw [h1] at h
        cases h
        exact ⟨n + 1, h2.1, Nat.le_refl _, h2.2, rfl⟩
      | some d' =>
        rw [h1] at h
        dsimp only at h
        split at h
        · cases h
          exact ⟨n + 1, h2.1, Nat.le_refl _, h2.2, rfl⟩
        · cases h
          obtain ⟨i, a, b, c⟩ := ih h1
          exact ⟨i, a, by omega, c⟩
    · obtain ⟨i, a, b, c⟩ := ih h
      exact ⟨i, a, by omega, c⟩
/-- whether a write of a source behind g is known now -/
def kn (sr kt : Nat → Nat) (s g now : Nat) : Nat → Bool
  | 0 => false
  | n + 1 => kn sr kt s g now n || (decide (g < n + 1) && (decide (sr (n + 1) = s) && decide (kt (n + 1) ≤ now)))
theorem kn_mk {now : Nat} : kn sr kt s g now n = match mk sr kt s g n with | some d => decide (d ≤ now) | none => false := by
  induction n with
  | zero => rfl
  | succ n ih =>
    simp only [kn, mk, ih]
    by_cases h : g < n + 1 ∧ sr (n + 1) = s
    · rw [if_pos h]
      cases h1 : mk sr kt s g n with
      | none => simp [h.1, h.2]
      | some d =>
        by_cases h2 : kt (n + 1) < d <;> by_cases h3 : kt (n + 1) ≤ now <;> by_cases h4 : d ≤ now <;> simp [h.1, h.2, h2, h3, h4] <;> omega
    · rw [if_neg h]
      have : (decide (g < n + 1) && (decide (sr (n + 1) = s) && decide (kt (n + 1) ≤ now))) = false := by
        by_cases h1 : g < n + 1
        · have h2 : ¬ sr (n + 1) = s := fun z => h ⟨h1, z⟩
          simp [h2]
        · simp [h1]
      rw [this, Bool.or_false]
theorem kn_0 {now : Nat} (h : n ≤ g) : kn sr kt s g now n = false := by
  induction n with
  | zero => rfl
  | succ n ih => simp [kn, ih (by omega), show ¬ g < n + 1 by omega]
theorem LEnt.cg (h : LEnt M k u sr kt E) (h1 : ∀ j, j < 8 → N 147 (8 * k + j) = M 147 (8 * k + j)) (h2 : ∀ j, j < 10 → lg (N 148) (10 * k + j) = lg (M 148) (10 * k + j)) : LEnt N k u sr kt E := by
  obtain ⟨g, g1, ⟨a1, a2, a3, a4, a5⟩, ⟨b1, b2⟩, b3⟩ := h
  refine ⟨g, g1, ⟨by rw [← a1]; exact h1 0 (by omega), by rw [h1 1 (by omega)]; exact a2, by rw [h1 2 (by omega)]; exact a3, by rw [h1 3 (by omega)]; exact a4, fun i hi => ?_⟩, ⟨b1, fun i r hr => ?_⟩, b3⟩
  · rw [show 8 * k + 4 + i = 8 * k + (4 + i) by omega, h1 (4 + i) (by omega), ← a5 i hi]
    congr 1
    omega
  · rw [h2 i (by have := gl_lt hr; omega)]
    exact b2 i r hr
theorem LEnt.mv (h : LEnt M k u sr kt E) (h1 : ∀ j, j < 8 → N 147 (8 * k' + j) = M 147 (8 * k + j)) (h2 : ∀ j, j < 10 → lg (N 148) (10 * k' + j) = lg (M 148) (10 * k + j)) : LEnt N k' u sr kt E := by
  obtain ⟨g, g1, ⟨a1, a2, a3, a4, a5⟩, ⟨b1, b2⟩, b3⟩ := h
  refine ⟨g, g1, ⟨by rw [← a1]; exact h1 0 (by omega), by rw [h1 1 (by omega)]; exact a2, by rw [h1 2 (by omega)]; exact a3, by rw [h1 3 (by omega)]; exact a4, fun i hi => ?_⟩, ⟨b1, fun i r hr => ?_⟩, b3⟩
  · rw [show 8 * k' + 4 + i = 8 * k' + (4 + i) by omega, h1 (4 + i) (by omega), ← a5 i hi]
    congr 1
    omega
  · rw [h2 i (by have := gl_lt hr; omega)]
    exact b2 i r hr
theorem HIST.cg (h : HIST M t u sr kt) (h1 : N 144 = M 144) (h2 : N 152 0 = M 152 0) {t' : Nat} (ht : t ≤ t') : HIST N t' u sr kt := ⟨by rw [h2]; exact h.1, h.2.1, fun i a b => by rw [h1]; have := h.2.2 i a b; exact ⟨this.1, this.2.1, by omega⟩⟩
/-! ageing: whether an entry is gone -/
theorem age66 {now g x6 : Nat} {b : Bool} {k121 : Int32 → Option Mem} (hH : HIST M t u sr kt) (hnow : M 152 1 = nI now) (hn : now < 2 ^ 29) (ht : t < 2 ^ 27) (hx : x6 < 6) (hs : M 147 (8 * x6) = nI s) (hs6 : s < 6) (hg : g ≤ u) : ∀ d i n, i + d = u → d < n → f_L_age_L66 fu (nI x6) M k121 n (bI (b || kn sr kt s g now i)) (nI (i + 1)) = k121 (bI (b || kn sr kt s g now u)) ∨ ¬ g ≤ i := by
  intro d
  induction d with
  | zero =>
    intro i n h1 h2
    by_cases hgi : g ≤ i
    · left
      obtain ⟨n, rfl⟩ := fu1 h2
      obtain rfl : i = u := by omega
      have h3 : nI i < nI (i + 1) := nI_lt (by omega) (by have := hH.2.1; omega)
      simp only [f_L_age_L66, hH.1, h3, if_true]
    · exact Or.inr hgi
  | succ d ih =>
    intro i n h1 h2
    by_cases hgi : g ≤ i
    · left
      obtain ⟨n, rfl⟩ := fu1 h2
      have hu := hH.2.1
      obtain ⟨e1, e2, e3⟩ := hH.2.2 (i + 1) (by omega) (by omega)
      have h3 : ¬ nI u < nI (i + 1) := nI_nlt (by omega) (by omega)
      have e4 : nI (sr (i + 1) + 8 * kt (i + 1)) &&& 7 = nI (sr (i + 1)) := by
        rw [pk_andN (by omega) 3 (by decide)]
        congr 1
        omega
      have e5 : nI (sr (i + 1) + 8 * kt (i + 1)) >>> (3 &&& 31) = nI (kt (i + 1)) := by
        rw [show ((3 : Int32) &&& 31) = 3 by decide, pk_shrN (by omega) 3 3 (by decide)]
        congr 1
        omega
      have e6 : (8 : Int32) * nI x6 = nI (8 * x6) := pk_mul 8 x6
      simp (disch := omega) only [f_L_age_L66, hH.1, h3, if_false, inb_nI, grd_true, e6, nI_clamp, e1, e4, e5, hs, hnow, nm_d, nI_1, nI_eq, nI_ltI]
      have e7 : (if sr (i + 1) = s then (if now < kt (i + 1) then (0 : Int32) else 1) else 0) = bI (decide (sr (i + 1) = s) && decide (kt (i + 1) ≤ now)) := by
        by_cases z1 : sr (i + 1) = s
        · by_cases z2 : now < kt (i + 1)
          · simp [z1, z2, bI]
          · simp [z1, z2, bI, show kt (i + 1) ≤ now by omega]
        · simp [z1, bI]
      have e8 : bI (b || kn sr kt s g now i) ||| bI (decide (sr (i + 1) = s) && decide (kt (i + 1) ≤ now)) = bI (b || kn sr kt s g now (i + 1)) := by
        simp only [kn, show g < i + 1 by omega, decide_true, Bool.true_and, ← Bool.or_assoc]
        generalize (b || kn sr kt s g now i) = y
        generalize (decide (sr (i + 1) = s) && decide (kt (i + 1) ≤ now)) = z
        cases y <;> cases z <;> decide
      rw [e7, e8]
      exact (ih (i + 1) n (by omega) (by omega)).resolve_right (fun z => z (by omega))
    · exact Or.inr hgi
theorem cpE {p q : Nat} {k165 : Mem → Option Mem} (hq : q ≤ p) (hp : p < 6) : ∀ d i n (N : Mem), i + d = 8 → d < n → (∀ a, a ≠ 147 → N a = M a) → (∀ j, N 147 j = if 8 * q ≤ j ∧ j < 8 * q + i then M 147 (8 * p + (j - 8 * q)) else M 147 j) →
    ∃ N', f_L_age_L132 fu (nI q) (nI p) k165 n (nI i) N = k165 N' ∧ (∀ a, a ≠ 147 → N' a = M a) ∧ ∀ j, N' 147 j = if 8 * q ≤ j ∧ j < 8 * q + 8 then M 147 (8 * p + (j - 8 * q)) else M 147 j := by
  intro d
  induction d with
  | zero =>
    intro i n N h1 h2 h3 h4
    obtain ⟨n, rfl⟩ := fu1 h2
    obtain rfl : i = 8 := by omega
    refine ⟨N, ?_, h3, h4⟩
    simp only [f_L_age_L132]
    rw [if_pos (by decide)]
  | succ d ih =>
    intro i n N h1 h2 h3 h4
    obtain ⟨n, rfl⟩ := fu1 h2
    have hi : ¬ (8 : Int32) ≤ nI i := fun z => by
      have : nI 8 ≤ nI i := z
      rw [nI_leI (by omega) (by omega)] at this
      omega
    have e1 : (8 : Int32) * nI p + nI i = nI (8 * p + i) := by rw [show (8 : Int32) = nI 8 from rfl, pk_mul, nI_add]
    have e2 : (8 : Int32) * nI q + nI i = nI (8 * q + i) := by rw [show (8 : Int32) = nI 8 from rfl, pk_mul, nI_add]
    have e3 : N 147 (8 * p + i) = M 147 (8 * p + i) := by rw [h4, if_neg (by omega)]
    simp (disch := omega) only [f_L_age_L132, hi, if_false, e1, e2, inb_nI, grd_true, nI_clamp, nm_d, nI_1, e3]
    refine ih (i + 1) n _ (by omega) (by omega) (fun a ha => by rw [up_n ha, h3 a ha]) (fun j => ?_)
    by_cases hj : j = 8 * q + i
    · subst hj
      rw [up_s, if_pos (by omega)]
      congr 1
      omega
    · rw [up_m hj, h4]
      by_cases h7 : 8 * q ≤ j ∧ j < 8 * q + i
      · rw [if_pos h7, if_pos (by omega)]
      · rw [if_neg h7, if_neg (by omega)]
theorem cpC {p q : Nat} {k201 : Mem → Option Mem} (hq : q ≤ p) (hp : p < 6) : ∀ d i n (N : Mem), i + d = 10 → d < n → (∀ a, a ≠ 148 → N a = M a) → (∀ j, lg (N 148) j = if 10 * q ≤ j ∧ j < 10 * q + i then lg (M 148) (10 * p + (j - 10 * q)) else lg (M 148) j) →
    ∃ N', f_L_age_L168 fu (nI q) (nI p) k201 n (nI i) N = k201 N' ∧ (∀ a, a ≠ 148 → N' a = M a) ∧ ∀ j, lg (N' 148) j = if 10 * q ≤ j ∧ j < 10 * q + 10 then lg (M 148) (10 * p + (j - 10 * q)) else lg (M 148) j := by
  intro d
  induction d with
  | zero =>
    intro i n N h1 h2 h3 h4
    obtain ⟨n, rfl⟩ := fu1 h2
    obtain rfl : i = 10 := by omega
    refine ⟨N, ?_, h3, h4⟩
    simp only [f_L_age_L168]
    rw [if_pos (by decide)]
  | succ d ih =>
    intro i n N h1 h2 h3 h4
    obtain ⟨n, rfl⟩ := fu1 h2
    have hi : ¬ (10 : Int32) ≤ nI i := fun z => by
      have : nI 10 ≤ nI i := z
      rw [nI_leI (by omega) (by omega)] at this
      omega
    have e1 : (10 : Int32) * nI p + nI i = nI (10 * p + i) := by rw [show (10 : Int32) = nI 10 from rfl, pk_mul, nI_add]
    have e2 : (10 : Int32) * nI q + nI i = nI (10 * q + i) := by rw [show (10 : Int32) = nI 10 from rfl, pk_mul, nI_add]
    have e3 : lg (N 148) (10 * p + i) = lg (M 148) (10 * p + i) := by rw [h4, if_neg (by omega)]
    simp (disch := omega) only [f_L_age_L168, hi, if_false, e1, e2, inb_nI, grd_true, nI_clamp, nm_d, nI_1, e3]
    refine ih (i + 1) n _ (by omega) (by omega) (fun a ha => by rw [upL_n ha, h3 a ha]) (fun j => ?_)
    by_cases hj : j = 10 * q + i
    · subst hj
      rw [upL_s, if_pos (by omega)]
      congr 1
      omega
    · rw [upL_m hj, h4]
      by_cases h7 : 10 * q ≤ j ∧ j < 10 * q + i
      · rw [if_pos h7, if_pos (by omega)]
      · rw [if_neg h7, if_neg (by omega)]
theorem bI_nz {b : Bool} : (bI b = 0) = (b = false) := by cases b <;> decide
theorem ageL {now : Nat} {ls : Nat → Int32} {k210 : Int32 → Mem → Option Mem} (hfu : 5000 ≤ fu) (hH : HIST M t u sr kt) (hL6 : L.length ≤ 6) (hcnt : M 152 3 = nI L.length) (hnow : M 152 1 = nI now) (hn : now < 2 ^ 29) (ht : t < 2 ^ 27) (hls : ∀ j, j < 3 → M 145 (12 + j) = ls j) : ∀ d i n (N : Mem) (K : List Ent), i + d = L.length → d < n → K.length ≤ i → (∀ a, a ≠ 147 → a ≠ 148 → N a = M a) → (∀ j E, K[j]? = some E → LEnt N j u sr kt E) → (∀ j E, i ≤ j → L[j]? = some E → LEnt N j u sr kt E) →
    ∃ N', f_L_age_L6 fu k210 n (nI K.length) (nI i) N = k210 (nI (K ++ (L.drop i).filter (fun E => !gone (nI now) ls E)).length) N' ∧ (∀ a, a ≠ 147 → a ≠ 148 → N' a = M a) ∧ (∀ j E, (K ++ (L.drop i).filter (fun E => !gone (nI now) ls E))[j]? = some E → LEnt N' j u sr kt E) ∧ (K ++ (L.drop i).filter (fun E => !gone (nI now) ls E)).length ≤ 6 := by
  intro d
  induction d with
  | zero =>
    intro i n N K h1 h2 h3 h4 h5 h6
    obtain ⟨n, rfl⟩ := fu1 h2
    have h7 : L.length ≤ i := by omega
    rw [List.drop_eq_nil_of_le h7, List.filter_nil, List.append_nil]
    refine ⟨N, ?_, h4, h5, by omega⟩
    have hc : N 152 3 = nI L.length := by rw [h4 152 (by omega) (by omega)]; exact hcnt
    simp (disch := omega) only [f_L_age_L6, hc, nI_leI, h7, if_true]
  | succ d ih =>
    intro i n N K h1 h2 h3 h4 h5 h6
    obtain ⟨n, rfl⟩ := fu1 h2
    have h7 : ¬ L.length ≤ i := by omega
    obtain ⟨E, hE⟩ := gl_ex (L := L) (i := i) (by omega)
    have hd : L.drop i = E :: L.drop (i + 1) := by
      have : i < L.length := by omega
      rw [List.getElem?_eq_getElem this] at hE
      cases hE
      exact List.drop_eq_getElem_cons this
    obtain ⟨g, g1, ⟨a1, a2, a3, a4, a5⟩, ⟨b1, b2⟩, c1, c2, c3, c4, c5, c6, c7⟩ := id (h6 i E (Nat.le_refl _) hE)
    have hc : N 152 3 = nI L.length := by rw [h4 152 (by omega) (by omega)]; exact hcnt
    have hnow' : N 152 1 = nI now := by rw [h4 152 (by omega) (by omega)]; exact hnow
    have hls' : N 145 (12 + E.1 / 2) = ls (E.1 / 2) := by rw [h4 145 (by omega) (by omega)]; exact hls _ (by omega)
    have hH' : HIST N t u sr kt := hH.cg (h4 144 (by omega) (by omega)) (by rw [h4 152 (by omega) (by omega)]) (Nat.le_refl _)
    have e1 : (8 : Int32) * nI i = nI (8 * i) := pk_mul 8 i
    have e2 : nI (8 * i) + 2 = nI (8 * i + 2) := nI_add _ 2
    have e3 : nI E.1 / 2 = nI (E.1 / 2) := pk_div (d := 2) (by omega) (by omega) (by omega)
    have e4 : (12 : Int32) + nI (E.1 / 2) = nI (12 + E.1 / 2) := nI_add 12 _
    have e6 : (if nI now - E.2.1 ≤ ls (E.1 / 2) then (0 : Int32) else 1) = bI (decide (ls (E.1 / 2) < nI now - E.2.1)) := by
      by_cases z : nI now - E.2.1 ≤ ls (E.1 / 2)
      · rw [if_pos z]
        have : ¬ ls (E.1 / 2) < nI now - E.2.1 := Int32.not_lt.mpr z
        simp [this, bI]
      · rw [if_neg z]
        have : ls (E.1 / 2) < nI now - E.2.1 := Int32.not_le.mp z
        simp [this, bI]
    have hgone : gone (nI now) ls E = (decide (ls (E.1 / 2) < nI now - E.2.1) || kn sr kt E.1 g now u) := by
      rw [kn_mk]
      simp only [gone, c3]
      rw [Bool.or_comm]
      congr 1
      cases hm : mk sr kt E.1 g u with
      | none => rfl
      | some d9 =>
        obtain ⟨i9, z1, z2, z3, z4⟩ := mk_in hm
        have := (hH.2.2 i9 (by omega) z2).2.2
        simp only [Option.map_some]
        congr 1
        exact propext (nI_leI (by omega) (by omega))
    have hu := hH.2.1
    have h66 := fun k121 => (age66 (fu := fu) (M := N) (g := g) (b := decide (ls (E.1 / 2) < nI now - E.2.1)) (k121 := k121) hH' hnow' hn ht (show i < 6 by omega) a1 c7 g1 (u - g) g fu (by omega) (by omega)).resolve_right (fun z => z (Nat.le_refl _))
    rw [kn_0 (Nat.le_refl _), Bool.or_false] at h66
    simp (disch := omega) only [f_L_age_L6, hc, nI_leI, h7, if_false, e1, e2, nI_1, inb_nI, grd_true, nI_clamp, a1, e3, e4, a2, a3, hnow', hls', e6, nm_d, jn_d, h66, ← hgone, bI_nz]
    rw [hd, List.filter_cons]
    by_cases hg : gone (nI now) ls E = true
    · have hgf : ¬ gone (nI now) ls E = false := by rw [hg]; decide
      simp only [hgf, if_false, hg, Bool.not_true, Bool.false_eq_true]
      exact ih (i + 1) n N K (by omega) (by omega) (by omega) h4 h5 (fun j E' hj => h6 j E' (by omega))
    · have hgf : gone (nI now) ls E = false := by simpa using hg
      simp only [hgf, if_true, Bool.not_false]
      obtain ⟨N1, f1, f2, f3⟩ := cpE (fu := fu) (M := N) (p := i) (q := K.length) (k165 := fun M_20 => f_L_age_L168 fu (nI K.length) (nI i) (fun M_22 => f_L_age_L6 fu k210 n (nI (K.length + 1)) (nI (i + 1)) M_22) fu 0 M_20) h3 (by omega) 8 0 fu N (by omega) (by omega) (fun _ _ => rfl) (fun j => by rw [if_neg (by omega)])
      obtain ⟨N2, f4, f5, f6⟩ := cpC (fu := fu) (M := N1) (p := i) (q := K.length) (k201 := fun M_22 => f_L_age_L6 fu k210 n (nI (K.length + 1)) (nI (i + 1)) M_22) h3 (by omega) 10 0 fu N1 (by omega) (by omega) (fun _ _ => rfl) (fun j => by rw [if_neg (by omega)])
      have q1 : ∀ j, N2 147 j = if 8 * K.length ≤ j ∧ j < 8 * K.length + 8 then N 147 (8 * i + (j - 8 * K.length)) else N 147 j := fun j => by rw [f5 147 (by omega)]; exact f3 j
      have q2 : ∀ j, lg (N2 148) j = if 10 * K.length ≤ j ∧ j < 10 * K.length + 10 then lg (N 148) (10 * i + (j - 10 * K.length)) else lg (N 148) j := fun j => by rw [f6 j, f2 148 (by omega)]
      have hlen1 : (K ++ [E]).length = K.length + 1 := by simp
      obtain ⟨N', r1, r2, r3, r4⟩ := ih (i + 1) n N2 (K ++ [E]) (by omega) (by omega) (by omega) (fun a h8 h9 => by rw [f5 a h9, f2 a h8, h4 a h8 h9])
        (fun j E' hj => by
          by_cases hj1 : j = K.length
          · subst hj1
            simp at hj
            subst hj
            refine (h6 i E (Nat.le_refl _) hE).mv (fun z hz => ?_) (fun z hz => ?_)
            · rw [q1, if_pos (by omega)]
              congr 1
              omega
            · rw [q2, if_pos (by omega)]
              congr 1
              omega
          · have hlt := gl_lt hj
            rw [hlen1] at hlt
            rw [List.getElem?_append_left (by omega)] at hj
            exact (h5 j E' hj).cg (fun z hz => by rw [q1, if_neg (by omega)]) (fun z hz => by rw [q2, if_neg (by omega)]))
        (fun j E' hj hj2 => (h6 j E' (by omega) hj2).cg (fun z hz => by rw [q1, if_neg (by omega)]) (fun z hz => by rw [q2, if_neg (by omega)]))
      rw [hlen1, List.append_assoc, List.singleton_append] at r1
      rw [List.append_assoc, List.singleton_append] at r3 r4
      refine ⟨N', ?_, r2, r3, r4⟩
      rw [← r1]
      exact f1.trans f4
theorem age_ok {now : Nat} {ls : Nat → Int32} (hfu : 5000 ≤ fu) (hH : HIST M t u sr kt) (hL : LCk M u sr kt L) (hnow : M 152 1 = nI now) (hn : now < 2 ^ 29) (ht : t < 2 ^ 27) (hls : ∀ j, j < 3 → M 145 (12 + j) = ls j) : ∃ N, f_L_age fu M = some N ∧ LCk N u sr kt (L.filter (fun E => !gone (nI now) ls E)) ∧ (∀ a, a ≠ 147 → a ≠ 148 → a ≠ 152 → N a = M a) ∧ ∀ j, j ≠ 3 → N 152 j = M 152 j := by
  obtain ⟨N', h1, h2, h3, h4⟩ := ageL (fu := fu) (M := M) (k210 := fun (x5_2 : Int32) (M_3 : Mem) => nm (up M_3 152 3 x5_2) (fun M_4 => some M_4)) hfu hH hL.2.1 hL.1 hnow hn ht hls L.length 0 fu M [] (by omega) (by have := hL.2.1; omega) (by simp) (fun _ _ _ => rfl) (fun j E hj => by simp at hj) (fun j E _ hj => hL.2.2 j E hj)
  simp only [List.drop_zero, List.nil_append, List.length_nil] at h1 h3 h4
  refine ⟨up N' 152 3 (nI (L.filter (fun E => !gone (nI now) ls E)).length), ?_, ⟨up_s, h4, fun k E hk => (h3 k E hk).cg (fun _ _ => by rw [up_n (by omega)]) (fun _ _ => by rw [up_n (by omega)])⟩, fun a h5 h6 h7 => by rw [up_n h7, h2 a h5 h6], fun j hj => by rw [up_m hj, h2 152 (by omega) (by omega)]⟩
  exact h1
end Hist
