/-! ===== rows come for a seat: both ===== -/
def ob (o i : Nat) (b : Bool) : Nat := if b = true then o + 2 ^ i else o
def St (M m : Mem) (i s nS nL nC nO cap : Nat) (R : List Row) (kf : Nat → Int32) : Prop := DR M m ∧ DG m nS nL nC nO ∧ m 19 i = nI s ∧ RC M (62 + 3 * s) R ∧ RM m s R ∧ M 121 = kf ∧ m 48 = kf ∧ M 51 = m 9 ∧ m 9 (s / 2) = nI cap
def FCr (i : Nat) (N M : Mem) : Prop := (∀ a, a ≠ 90 → a ≠ 96 + 3 * i → a ≠ 96 + 3 * i + 1 → a ≠ 96 + 3 * i + 2 → N a = M a) ∧ ∀ j, j ≠ 7 → j ≠ 9 → j ≠ 11 → N 90 j = M 90 j
def FMr (n m : Mem) : Prop := (∀ a, a ≠ 0 → a ≠ 43 → a ≠ 44 → a ≠ 45 → n a = m a) ∧ ∀ j, j ≠ 55 → j ≠ 62 → j ≠ 80 → j ≠ 82 → n 0 j = m 0 j
def RSo (i : Nat) (n m : Mem) : Prop := ∀ i' A', i' < 3 → i' ≠ i → RS m i' A' → RS n i' A'
/-- whether the row is one of those asked for by keys -/
def ksel (kf : Nat → Int32) (co : Option Nat) (a b : Nat) (r : Row) : Bool := match co with | none => true | some c => kin kf (cel r c) a b
def rsel (kf : Nat → Int32) (co : Option Nat) (a b : Nat) (R : List Row) (k : Nat) : Bool := match R[k]? with | none => false | some r => ksel kf co a b r
section Receive
variable {fu i s nS nL nC nO cap o a b B c fr : Nat} {M m N n : Mem} {R A : List Row} {kf : Nat → Int32} {co : Option Nat} {v : Int32} {b0 : Bool}
theorem bit_all : ∀ (o : Fin 8) (i : Fin 3) (b : Bool), o.val.testBit i.val = false → (nI (ob o i b) ||| (nI 1 <<< (nI i &&& nI 31)) = nI (ob o i true)) ∧ ((nI (ob o i b) &&& (nI 1 <<< (nI i &&& nI 31)) = nI 0) ↔ (b = false)) ∧ (nI (ob o i b) &&& ((nI 1 <<< (nI i &&& nI 31)) ^^^ (-nI 1)) = nI o) ∧ nI o ||| nI 0 = nI o ∧ ob o i b < 8 := by decide +kernel
theorem bits (ho : o < 8) (hi : i < 3) (b : Bool) (h : o.testBit i = false) : (nI (ob o i b) ||| (nI 1 <<< (nI i &&& nI 31)) = nI (ob o i true)) ∧ ((nI (ob o i b) &&& (nI 1 <<< (nI i &&& nI 31)) = nI 0) ↔ (b = false)) ∧ (nI (ob o i b) &&& ((nI 1 <<< (nI i &&& nI 31)) ^^^ (-nI 1)) = nI o) ∧ nI o ||| nI 0 = nI o ∧ ob o i b < 8 := bit_all ⟨o, ho⟩ ⟨i, hi⟩ b h
theorem FMr.ds (h : FMr n m) : DS n m := ⟨fun a h1 h2 => h.1 a (by omega) (by omega) (by omega) (by omega), fun j h1 h2 => h.2 j (by omega) (by omega) (by omega) (by omega)⟩
theorem FCr.trans {P : Mem} (h : FCr i N P) (h' : FCr i P M) : FCr i N M := ⟨fun a h1 h2 h3 h4 => by rw [h.1 a h1 h2 h3 h4, h'.1 a h1 h2 h3 h4], fun j h1 h2 h3 => by rw [h.2 j h1 h2 h3, h'.2 j h1 h2 h3]⟩
theorem FMr.trans {P : Mem} (h : FMr n P) (h' : FMr P m) : FMr n m := ⟨fun a h1 h2 h3 h4 => by rw [h.1 a h1 h2 h3 h4, h'.1 a h1 h2 h3 h4], fun j h1 h2 h3 h4 => by rw [h.2 j h1 h2 h3 h4, h'.2 j h1 h2 h3 h4]⟩
theorem FCr.rfl : FCr i M M := ⟨fun _ _ _ _ _ => Eq.refl _, fun _ _ _ _ => Eq.refl _⟩
theorem FMr.rfl : FMr m m := ⟨fun _ _ _ _ _ => Eq.refl _, fun _ _ _ _ _ => Eq.refl _⟩
theorem RSo.rfl : RSo i m m := fun _ _ _ _ h => h
theorem RSo.trans {P : Mem} (h : RSo i n P) (h' : RSo i P m) : RSo i n m := fun i' A' h1 h2 h3 => h i' A' h1 h2 (h' i' A' h1 h2 h3)
theorem St.cg (h : St M m i s nS nL nC nO cap R kf) (hC : FCr i N M) (hM : FMr n m) (hs : s < 6) (hi : i < 3) : St N n i s nS nL nC nO cap R kf := by
  obtain ⟨h1, h2, h3, h4, h5, h6, h7, h8, h9⟩ := h
  refine ⟨h1.cg (fun a _ _ => hC.1 a (by omega) (by omega) (by omega) (by omega)) hM.ds, h2.cg hM.ds, ?_, h4.cg ?_ ?_ ?_, h5.cg ?_ ?_ ?_, ?_, ?_, ?_, ?_⟩
  · rw [hM.1 19 (by omega) (by omega) (by omega) (by omega)]; exact h3
  · rw [hC.1 _ (by omega) (by omega) (by omega) (by omega)]
  · rw [hC.1 _ (by omega) (by omega) (by omega) (by omega)]
  · rw [hC.1 _ (by omega) (by omega) (by omega) (by omega)]
  · rw [hM.1 _ (by omega) (by omega) (by omega) (by omega)]
  · rw [hM.1 _ (by omega) (by omega) (by omega) (by omega)]
  · rw [hM.1 _ (by omega) (by omega) (by omega) (by omega)]
  · rw [hC.1 _ (by omega) (by omega) (by omega) (by omega)]; exact h6
  · rw [hM.1 _ (by omega) (by omega) (by omega) (by omega)]; exact h7
  · rw [hC.1 _ (by omega) (by omega) (by omega) (by omega), hM.1 _ (by omega) (by omega) (by omega) (by omega)]; exact h8
  · rw [hM.1 _ (by omega) (by omega) (by omega) (by omega)]; exact h9
theorem oI_n1 {co : Option Nat} (h : ∀ c, co = some c → c < 4) : (oI co = -nI 1) = (co = none) := propext (oI_none (fun c hc => by have := h c hc; omega))
/-- one row of the reference's loop -/
theorem comesStep {k p : Nat} {r : Row} {n1 : Nat} (hfu : 5000 ≤ fu) (hi : i < 3) (hs6 : s < 6) (hSt : St M m i s nS nL nC nO cap R kf) (hr : R[p]? = some r) (hok : ∀ c, c < 4 → okc (cel r c)) (hco : ∀ c, co = some c → c < 4) (hab : a ≤ b) (hb : b ≤ 12) (hn : n1 ≤ 12) (hcap : cap ≤ 12) {kk : Int32 → Mem → Option Mem} : f_X11_comes_L19 fu (nI i) (oI co) (nI a) (nI b) (nI s) kk (k + 1) (nI n1) (nI p) m = (if (al (hS m i r) nC && ksel kf co a b r) = true then (if n1 = cap then f_X11_comes_L19 fu (nI i) (oI co) (nI a) (nI b) (nI s) kk k (nI n1) (nI (p + 1)) (up m 0 62 1) else bd (f_X11_lays fu (nI i) (nI p) m) (fun M_24 => f_X11_comes_L19 fu (nI i) (oI co) (nI a) (nI b) (nI s) kk k (nI (n1 + 1)) (nI (p + 1)) M_24)) else f_X11_comes_L19 fu (nI i) (oI co) (nI a) (nI b) (nI s) kk k (nI n1) (nI (p + 1)) m) := by
  obtain ⟨h1, h2, h3, h4, h5, h6, h7, h8, h9⟩ := hSt
  have hl := gl_lt hr
  have h12 := h5.2.1
  have h10 : ¬ R.length ≤ p := by omega
  have hst : f_X10_storeOf (nI s) = nI (s / 2) := sto hs6
  have hs2 : s / 2 < 3 := by omega
  simp (disch := omega) only [f_X11_comes_L19, lit, nI_add, pk_mul, pk_sub, nI_clamp, inb_nI, nI_leI, nI_ltI, nI_eq, add_m1, ↓reduceIte, grd_true, nm_d, jn_d, bd_some, bm_some, om_some, om_none, h5.1, h10, holdSent_eq hfu h2 hi h3 hs6 h5 hr hok, bI_0, oI_n1 hco, st_store, hst, h9]
  cases e1 : al (hS m i r) nC with
  | false => rw [if_pos rfl, if_neg (by simp)]
  | true =>
    rw [if_neg (by decide)]
    cases hc : co with
    | none =>
      rw [if_pos rfl]
      have hk : (true && ksel kf none a b r) = true := rfl
      rw [hk, if_pos rfl]
    | some c =>
      have hc4 := hco c hc
      rw [if_neg (by simp)]
      have e2 := h5.cell hr hc4
      simp (disch := omega) only [oI, lit, nI_add, pk_mul, pk_sub, nI_clamp, inb_nI, nI_leI, nI_ltI, nI_eq, add_m1, ↓reduceIte, grd_true, nm_d, jn_d, bd_some, bm_some, om_some, om_none, e2, mkey_eq hfu hb hab, h7, bI_0]
      cases e3 : kin kf (cel r c) a b with
      | false =>
        rw [if_pos rfl]
        have hk : (true && ksel kf (some c) a b r) = false := by simp [ksel, e3]
        rw [hk, if_neg (by decide)]
      | true =>
        rw [if_neg (by decide)]
        have hk : (true && ksel kf (some c) a b r) = true := by simp [ksel, e3]
        rw [hk, if_pos rfl]
theorem comesCut (hfu : 5000 ≤ fu) (hi : i < 3) (hs6 : s < 6) (hSt : St M m i s nS nL nC nO cap R kf) (hok : okR R) (hco : ∀ c, co = some c → c < 4) (hab : a ≤ b) (hb : b ≤ 12) (hcap : cap ≤ 12) (hcut : m 0 62 = 1) {kk : Int32 → Mem → Option Mem} : ∀ d p k, p + d = R.length → d < k → f_X11_comes_L19 fu (nI i) (oI co) (nI a) (nI b) (nI s) kk k (nI cap) (nI p) m = kk (nI cap) m := by
  intro d
  induction d with
  | zero =>
    intro p k h1 h2
    obtain ⟨k, rfl⟩ := fu1 h2
    have h5 := hSt.2.2.2.2.1
    have h12 := h5.2.1
    obtain rfl : p = R.length := by omega
    simp (disch := omega) only [f_X11_comes_L19, lit, nI_add, pk_mul, pk_sub, nI_clamp, inb_nI, nI_leI, nI_ltI, nI_eq, add_m1, ↓reduceIte, grd_true, nm_d, jn_d, bd_some, bm_some, om_some, om_none, h5.1, Nat.le_refl]
  | succ d ih =>
    intro p k h1 h2
    obtain ⟨k, rfl⟩ := fu1 h2
    obtain ⟨r, hr⟩ := gl_some (R := R) (i := p) (by omega)
    rw [comesStep hfu hi hs6 hSt hr (hok r (List.mem_of_getElem? hr)) hco hab hb hcap hcap]
    rw [up_self hcut, if_pos rfl]
    split <;> exact ih (p + 1) k (by omega) (by omega)
/-- one row of the class's loop -/
theorem recStep {k : Nat} {p : Nat} {r : Row} {n1 : Nat} (hfu : 5000 ≤ fu) (hi : i < 3) (hs6 : s < 6) (hSt : St M m i s nS nL nC nO cap R kf) (hr : R[p]? = some r) (hok : ∀ c, c < 4 → okc (cel r c)) (hco : ∀ c, co = some c → c < 4) (hab : a ≤ b) (hb : b ≤ 12) (hn : n1 ≤ 12) (hcap : cap ≤ 12) {kk kc : Mem → Option (Int32 × Mem)} : f_X1_receive_L36 fu (nI i) (oI co) (nI a) (nI b) (nI (s / 2)) (62 + 3 * s) kk kc (k + 1) (nI n1) (nI p) M = (if (al (hS m i r) nC && ksel kf co a b r) = true then (if n1 < cap then bd (f_X6_takeRow fu (96 + 3 * i) (62 + 3 * s) (nI p) M) (fun M_27 => f_X1_receive_L36 fu (nI i) (oI co) (nI a) (nI b) (nI (s / 2)) (62 + 3 * s) kk kc k (nI (n1 + 1)) (nI (p + 1)) (up (up M_27 90 11 (M_27 90 11 + nI 1)) 90 9 (M_27 90 9 + freight (s / 2)))) else kc M) else f_X1_receive_L36 fu (nI i) (oI co) (nI a) (nI b) (nI (s / 2)) (62 + 3 * s) kk kc k (nI n1) (nI (p + 1)) M) := by
  obtain ⟨h1, h2, h3, h4, h5, h6, h7, h8, h9⟩ := hSt
  have hl := gl_lt hr
  have h12 := h5.2.1
  have h10 : ¬ R.length ≤ p := by omega
  have hs2 : s / 2 < 3 := by omega
  simp (disch := omega) only [f_X1_receive_L36, lit, nI_add, pk_mul, pk_sub, nI_clamp, inb_nI, nI_leI, nI_ltI, nI_eq, add_m1, ↓reduceIte, grd_true, nm_d, jn_d, bd_some, bm_some, om_some, om_none, h4.1, h10, sentHold_eq hfu h1 h2 hi h4 hr hok, bI_0, oI_n1 hco, h8, h9, Nat.reduceAdd, up_m]
  cases e1 : al (hS m i r) nC with
  | false => rw [if_pos rfl, if_neg (by simp)]
  | true =>
    rw [if_neg (by decide)]
    cases hc : co with
    | none =>
      rw [if_pos rfl]
      have hk : (true && ksel kf none a b r) = true := rfl
      rw [hk, if_pos rfl]
    | some c =>
      have hc4 := hco c hc
      rw [if_neg (by simp)]
      have e2 := cellAt_eq (fu := fu) h4 hr hc4
      simp (disch := omega) only [oI, e2, bd_some, ckey_eq hfu hb hab, h6, bI_0]
      cases e3 : kin kf (cel r c) a b with
      | false =>
        rw [if_pos rfl]
        have hk : (true && ksel kf (some c) a b r) = false := by simp [ksel, e3]
        rw [hk, if_neg (by decide)]
      | true =>
        rw [if_neg (by decide)]
        have hk : (true && ksel kf (some c) a b r) = true := by simp [ksel, e3]
        rw [hk, if_pos rfl]
theorem ct_mono {P : Nat → Bool} {p q : Nat} (h : p ≤ q) : ct P p ≤ ct P q := by
  induction q with
  | zero => rw [show p = 0 by omega]; exact Nat.le_refl _
  | succ q ih =>
    by_cases hp : p = q + 1
    · rw [hp]; exact Nat.le_refl _
    · have := ih (by omega)
      simp only [ct]
      omega
def kc166 (i : Nat) : Mem → Option (Int32 × Mem) := fun M_7 => if ((M_7 90 7) &&& (1 <<< (nI i &&& 31))) = 0 then some (1, M_7) else some (0, M_7)
theorem kc166_eq {bb : Bool} (ho : o < 8) (hi : i < 3) (h : o.testBit i = false) (hM : M 90 7 = nI (ob o i bb)) : kc166 i M = some (bI (!bb), M) := by
  have h1 := (bits ho hi bb h).2.1
  simp only [kc166, lit, hM]
  cases bb with
  | false => rw [if_pos (h1.mpr rfl)]; rfl
  | true => rw [if_neg (fun hh => by have := h1.mp hh; cases this)]; rfl
theorem kc102_eq {bb : Bool} (ho : o < 8) (hi : i < 3) (h : o.testBit i = false) (hM : M 90 7 = nI (ob o i bb)) : bd (f_X1_open fu (nI i) M) (fun M_12 => kc166 i M_12) = some (0, up M 90 7 (nI (ob o i true))) := by
  have h1 := (bits ho hi bb h).1
  simp only [f_X1_open, lit, nm_d, hM, h1, bd_some]
  rw [kc166_eq ho hi h up_s]
  rfl
theorem recL (hfu : 5000 ≤ fu) (hi : i < 3) (hs6 : s < 6) (hok : okR R) (hco : ∀ c, co = some c → c < 4) (hab : a ≤ b) (hb : b ≤ 12) (hcap : cap ≤ 12) (hB : B ≤ 12) (ho : o < 8) (hbit : o.testBit i = false) (hfr : freight (s / 2) = nI fr) {kk : Int32 → Mem → Option Mem} : ∀ d p k k' (M m : Mem) (A : List Row) (n1 : Nat), p + d = R.length → d < k → d < k' → St M m i s nS nL nC nO cap R kf → RC M (96 + 3 * i) A → RS m i A → A.length + ct (rsel kf co a b R) R.length ≤ B + ct (rsel kf co a b R) p → n1 ≤ p → n1 ≤ cap → M 90 9 = nI (c + n1 * fr) → M 90 11 = v + nI n1 → M 90 7 = nI (ob o i b0) → m 0 62 = 0 →
    ∃ N n A' cnt cut, f_X1_receive_L36 fu (nI i) (oI co) (nI a) (nI b) (nI (s / 2)) (62 + 3 * s) (kc166 i) (fun M_10 => bd (f_X1_open fu (nI i) M_10) (fun M_12 => kc166 i M_12)) k (nI n1) (nI p) M = some (bI (!(b0 || cut)), N) ∧ f_X11_comes_L19 fu (nI i) (oI co) (nI a) (nI b) (nI s) kk k' (nI n1) (nI p) m = kk (nI cnt) n ∧ RC N (96 + 3 * i) A' ∧ RS n i A' ∧ A'.length ≤ B ∧ cnt ≤ 12 ∧ N 90 9 = nI (c + cnt * fr) ∧ N 90 11 = v + nI cnt ∧ N 90 7 = nI (ob o i (b0 || cut)) ∧ n 0 62 = bI cut ∧ FCr i N M ∧ FMr n m ∧ RSo i n m ∧ (∀ r ∈ A', r ∈ A ∨ r ∈ R) ∧ (∀ j, j ≠ 62 → n 0 j = m 0 j) := by
  intro d
  induction d with
  | zero =>
    intro p k k' M m A n1 h1 h2 h3 hSt hA1 hA2 hlen hn hnc hc hv hm7 h62
    obtain ⟨k, rfl⟩ := fu1 h2
    obtain ⟨k', rfl⟩ := fu1 h3
    obtain rfl : p = R.length := by omega
    have q4 := hSt.2.2.2.1
    have q5 := hSt.2.2.2.2.1
    have h12 := q5.2.1
    refine ⟨M, m, A, n1, false, ?_, ?_, hA1, hA2, by omega, by omega, hc, hv, by rw [Bool.or_false]; exact hm7, h62, .rfl, .rfl, .rfl, fun r hr => Or.inl hr, fun _ _ => rfl⟩
    · simp (disch := omega) only [f_X1_receive_L36, q4.1, lit, nI_add, pk_mul, pk_sub, nI_clamp, inb_nI, nI_leI, nI_ltI, nI_eq, add_m1, ↓reduceIte, grd_true, nm_d, jn_d, bd_some, bm_some, om_some, om_none, Nat.le_refl, Bool.or_false]
      exact kc166_eq ho hi hbit hm7
    · simp (disch := omega) only [f_X11_comes_L19, q5.1, lit, nI_add, pk_mul, pk_sub, nI_clamp, inb_nI, nI_leI, nI_ltI, nI_eq, add_m1, ↓reduceIte, grd_true, nm_d, jn_d, bd_some, bm_some, om_some, om_none, Nat.le_refl]
  | succ d ih =>
    intro p k k' M m A n1 h1 h2 h3 hSt hA1 hA2 hlen hn hnc hc hv hm7 h62
    obtain ⟨k, rfl⟩ := fu1 h2
    obtain ⟨k', rfl⟩ := fu1 h3
    obtain ⟨r, hr⟩ := gl_some (R := R) (i := p) (by omega)
    have hokr := hok r (List.mem_of_getElem? hr)
    have q4 := hSt.2.2.2.1
    have q5 := hSt.2.2.2.2.1
    have h12 := q5.2.1
    have hct : ct (rsel kf co a b R) (p + 1) = ct (rsel kf co a b R) p + if ksel kf co a b r = true then 1 else 0 := by simp only [ct, rsel, hr]
    have hmo := ct_mono (P := rsel kf co a b R) (show p + 1 ≤ R.length by omega)
    rw [recStep hfu hi hs6 hSt hr hokr hco hab hb (by omega) hcap, comesStep hfu hi hs6 hSt hr hokr hco hab hb (by omega) hcap]
    by_cases hsel : (al (hS m i r) nC && ksel kf co a b r) = true
    · rw [if_pos hsel, if_pos hsel]
      have hks : ksel kf co a b r = true := by rw [Bool.and_eq_true] at hsel; exact hsel.2
      rw [hks, if_pos rfl] at hct
      by_cases hcp : n1 < cap
      · rw [if_pos hcp, if_neg (by omega)]
        rw [takeRow_eq hfu hA1 (by omega) q4 hr (Or.inr (by omega)), bd_some, lays_eq (x := 0) hfu hi hSt.2.2.1 hs6 hA2 (by omega) q5 hr, bd_some]
        have e90 : insM M (96 + 3 * i) A r 90 = M 90 := insM_n ⟨by omega, by omega, by omega⟩
        have fC : FCr i (up (up (insM M (96 + 3 * i) A r) 90 11 (insM M (96 + 3 * i) A r 90 11 + nI 1)) 90 9 (insM M (96 + 3 * i) A r 90 9 + freight (s / 2))) M := ⟨fun x x1 x2 x3 x4 => by rw [up_n x1, up_n x1, insM_n ⟨x2, x3, x4⟩], fun j j1 j2 j3 => by rw [up_m j2, up_m j3, e90]⟩
        have fM : FMr (laM m i A r) m := ⟨fun x x1 x2 x3 x4 => laM_n ⟨x2, x3, x4⟩, fun j j1 j2 j3 j4 => by rw [laM_n ⟨by omega, by omega, by omega⟩]⟩
        have hRSo : RSo i (laM m i A r) m := fun i' A' z1 z2 z3 => laM_RS' z3 z2 (by omega)
        obtain ⟨N, n, A', cnt, cut, g1, g2, g3, g4, g5, g6, g7, g8, g9, g10, g11, g12, g13, g14, g15⟩ := ih (p + 1) k k' _ _ (insR A r) (n1 + 1) (by omega) (by omega) (by omega) (hSt.cg fC fM hs6 hi)
          ((insM_RC hA1 (by omega)).cg (by rw [up_n (by omega), up_n (by omega)]) (by rw [up_n (by omega), up_n (by omega)]) (by rw [up_n (by omega), up_n (by omega)]))
          (laM_RS hA2 (by omega)) (by rw [insR_len]; omega) (by omega) (by omega)
          (by rw [up_s, e90, hc, hfr, nI_add]; congr 1; rw [Nat.add_mul]; omega)
          (by rw [up_m (by omega), up_s, e90, hv, ← nI_add n1 1]; grind)
          (by rw [up_m (by omega), up_m (by omega), e90]; exact hm7)
          (by rw [laM_n ⟨by omega, by omega, by omega⟩]; exact h62)
        refine ⟨N, n, A', cnt, cut, g1, g2, g3, g4, g5, g6, g7, g8, g9, g10, g11.trans fC, g12.trans fM, g13.trans hRSo, fun r' hr' => ?_, fun j hj => by rw [g15 j hj, laM_n ⟨by omega, by omega, by omega⟩]⟩
        rcases g14 r' hr' with hh | hh
        · rcases mem_ins hh with rfl | hh
          · exact Or.inr (List.mem_of_getElem? hr)
          · exact Or.inl hh
        · exact Or.inr hh
      · rw [if_neg hcp, if_pos (by omega)]
        obtain rfl : n1 = cap := by omega
        rw [kc102_eq ho hi hbit hm7]
        have hSt' : St M (up m 0 62 1) i s nS nL nC nO n1 R kf := hSt.cg .rfl ⟨fun x x1 _ _ _ => up_n x1, fun j _ j2 _ _ => up_m j2⟩ hs6 hi
        rw [comesCut hfu hi hs6 hSt' hok hco hab hb hcap up_s d (p + 1) k' (by omega) (by omega)]
        refine ⟨up M 90 7 (nI (ob o i true)), up m 0 62 1, A, n1, true, by rw [Bool.or_true]; rfl, rfl, hA1.cg (by rw [up_n (by omega)]) (by rw [up_n (by omega)]) (by rw [up_n (by omega)]), hA2.cg (by rw [up_n (by omega)]) (by rw [up_n (by omega)]) (by rw [up_n (by omega)]), by omega, by omega, by rw [up_m (by omega)]; exact hc, by rw [up_m (by omega)]; exact hv, by rw [up_s, Bool.or_true], up_s, ⟨fun x x1 _ _ _ => up_n x1, fun j j1 _ _ => up_m j1⟩, ⟨fun x x1 _ _ _ => up_n x1, fun j _ j2 _ _ => up_m j2⟩, fun i' A' _ _ h => h.cg (by rw [up_n (by omega)]) (by rw [up_n (by omega)]) (by rw [up_n (by omega)]), fun r hr => Or.inl hr, fun j hj => up_m hj⟩
    · rw [if_neg hsel, if_neg hsel]
      exact ih (p + 1) k k' M m A n1 (by omega) (by omega) (by omega) hSt hA1 hA2 (by omega) (by omega) hnc hc hv hm7 h62
theorem rec2 {sc t0 dl c0 : Nat} (hfu : 5000 ≤ fu) (hi : i < 3) (hs6 : s < 6) (hok : okR R) (hco : ∀ c, co = some c → c < 4) (hab : a ≤ b) (hb : b ≤ 12) (hcap : cap ≤ 12) (hB : B ≤ 12) (ho : o < 8) (hbit : o.testBit i = false) (hfr : freight (s / 2) = nI fr) (hfm : m 16 = freight) (hSt : St M m i s nS nL nC nO cap R kf) (hA1 : RC M (96 + 3 * i) A) (hA2 : RS m i A) (hlen : A.length + ct (rsel kf co a b R) R.length ≤ B) (hq : QR M m t0 dl c0 sc) (hm7 : M 90 7 = nI (ob o i b0)) :
    ∃ N n A' cnt cut, f_X1_receive fu (nI i) (oI co) (nI a) (nI b) M = some (bI (!(b0 || cut)), N) ∧ f_X11_comes fu (nI i) (oI co) (nI a) (nI b) m = some n ∧ RC N (96 + 3 * i) A' ∧ RS n i A' ∧ A'.length ≤ B ∧ cnt ≤ 12 ∧ QR N n t0 dl c0 (sc + cnt * fr) ∧ N 90 7 = nI (ob o i (b0 || cut)) ∧ n 0 62 = bI cut ∧ FCr i N M ∧ FMr n m ∧ RSo i n m ∧ (∀ r ∈ A', r ∈ A ∨ r ∈ R) := by
  obtain ⟨q1, q2, q3, q4, q5, q6, q7, q8⟩ := hq
  have h12 := hSt.2.2.2.2.1.2.1
  have hSt' : St M (up m 0 62 0) i s nS nL nC nO cap R kf := hSt.cg .rfl ⟨fun x x1 _ _ _ => up_n x1, fun j _ j2 _ _ => up_m j2⟩ hs6 hi
  have hsrc : M 81 i = nI s := by rw [hSt.1.2.1.1]; exact hSt.2.2.1
  have hst : f_X10_storeOf (nI s) = nI (s / 2) := sto hs6
  have hs2 : s / 2 < 3 := by omega
  obtain ⟨N, n, A', cnt, cut, g1, g2, g3, g4, g5, g6, g7, g8, g9, g10, g11, g12, g13, g14, g15⟩ := recL (fu := fu) (co := co) (a := a) (b := b) (B := B) (c := c0 + sc) (v := m 0 82) (b0 := b0) (fr := fr) (kk := fun (x6_5 : Int32) (M_6 : Mem) => nm (up M_6 0 82 ((M_6 0 82) + x6_5)) (fun M_7 => grd (inb (f_X11_storeOf (nI s)) 3) (bd (f_X11_pays fu (x6_5 * (M_7 16 (f_X11_storeOf (nI s)).toNatClampNeg)) M_7) (fun M_10 => some M_10)))) hfu hi hs6 hok hco hab hb hcap hB ho hbit hfr R.length 0 fu fu M (up m 0 62 0) A 0 (by omega) (by omega) (by omega) hSt' hA1 (hA2.cg (by rw [up_n (by omega)]) (by rw [up_n (by omega)]) (by rw [up_n (by omega)])) (by simp only [ct]; omega) (by omega) (by omega) (by rw [q4]; simp) (by rw [q8]; show m 0 82 = m 0 82 + 0; grind) hm7 up_s
  have e1 : f_X1_receive fu (nI i) (oI co) (nI a) (nI b) M = some (bI (!(b0 || cut)), N) := by
    rw [← g1]
    simp (disch := omega) only [f_X1_receive, nm_d, jn_d, inb_nI, grd_true, nI_clamp, hsrc, hst, Nat.reduceAdd]
    rfl
  have hn16 : n 16 = freight := by rw [g12.1 16 (by omega) (by omega) (by omega) (by omega), up_n (by omega)]; exact hfm
  have e2 : f_X11_comes fu (nI i) (oI co) (nI a) (nI b) m = some (up (up (up n 0 82 (n 0 82 + nI cnt)) 0 80 (n 0 80 + nI (cnt * fr))) 0 55 (n 0 55 + nI (cnt * fr))) := by
    have : f_X11_comes fu (nI i) (oI co) (nI a) (nI b) m = f_X11_comes_L19 fu (nI i) (oI co) (nI a) (nI b) (nI s) (fun (x6_5 : Int32) (M_6 : Mem) => nm (up M_6 0 82 ((M_6 0 82) + x6_5)) (fun M_7 => grd (inb (f_X11_storeOf (nI s)) 3) (bd (f_X11_pays fu (x6_5 * (M_7 16 (f_X11_storeOf (nI s)).toNatClampNeg)) M_7) (fun M_10 => some M_10)))) fu (nI 0) (nI 0) (up m 0 62 0) := by
      simp (disch := omega) only [f_X11_comes, inb_nI, grd_true, nI_clamp, hSt.2.2.1]
      rfl
    rw [this, g2]
    simp (disch := omega) only [nm_d, st_store, hst, inb_nI, grd_true, nI_clamp, f_X11_pays, up_n, up_m, hn16, hfr, pk_mul, bd_some]
  have fF : FMr (up (up (up n 0 82 (n 0 82 + nI cnt)) 0 80 (n 0 80 + nI (cnt * fr))) 0 55 (n 0 55 + nI (cnt * fr))) n := ⟨fun x x1 _ _ _ => by rw [up_n x1, up_n x1, up_n x1], fun j j1 j2 j3 j4 => by rw [up_m j1, up_m j3, up_m j4]⟩
  refine ⟨N, _, A', cnt, cut, e1, e2, g3, g4.cg (by rw [up_n (by omega), up_n (by omega), up_n (by omega)]) (by rw [up_n (by omega), up_n (by omega), up_n (by omega)]) (by rw [up_n (by omega), up_n (by omega), up_n (by omega)]), g5, g6, ⟨?_, ?_, ?_, ?_, ?_, ?_, ?_, ?_⟩, g9, ?_, g11, (fF.trans g12).trans ⟨fun x x1 _ _ _ => up_n x1, fun j _ j2 _ _ => up_m j2⟩, fun i' A' z1 z2 z3 => ?_, g14⟩
  · rw [g11.1 120 (by omega) (by omega) (by omega) (by omega)]; exact q1
  · rw [up_m (by omega), up_m (by omega), up_m (by omega), g15 52 (by omega), up_m (by omega)]; exact q2
  · rw [up_m (by omega), up_m (by omega), up_m (by omega), g15 54 (by omega), up_m (by omega)]; exact q3
  · rw [g7, Nat.add_assoc]
  · rw [up_m (by omega), up_s, g15 80 (by omega), up_m (by omega), q5, nI_add, Nat.add_assoc]
  · rw [up_s, g15 55 (by omega), up_m (by omega), q6, nI_add]
  · rw [g11.2 10 (by omega) (by omega) (by omega), up_m (by omega), up_m (by omega), up_m (by omega), g15 81 (by omega), up_m (by omega)]; exact q7
  · rw [g8, up_m (by omega), up_m (by omega), up_s, g15 82 (by omega), up_m (by omega)]
  · rw [up_m (by omega), up_m (by omega), up_m (by omega)]; exact g10
  · have := g13 i' A' z1 z2 (z3.cg (by rw [up_n (by omega)]) (by rw [up_n (by omega)]) (by rw [up_n (by omega)]))
    exact this.cg (by rw [up_n (by omega), up_n (by omega), up_n (by omega)]) (by rw [up_n (by omega), up_n (by omega), up_n (by omega)]) (by rw [up_n (by omega), up_n (by omega), up_n (by omega)])
end Receive
