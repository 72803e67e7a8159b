/-! ===== rows come ===== -/
/-- a class's memory that fits the reference's, for what speaks of both -/
def mcs (m : Mem) (s : Nat) : Mem := fun a j =>
  if a = 80 then (if j = 9 then m 0 22 else if j = 10 then m 0 24 else if j = 11 then m 0 29 else if j = 12 then m 0 34 else if j = 13 then m 0 37 else m 0 38)
  else if a = 81 then m 19 j else if a = 84 then m 24 j else if a = 85 then m 25 j else if a = 86 then m 26 j else if a = 87 then m 27 j else if a = 88 then m 28 j else if a = 89 then m 29 j
  else if a = 82 then (if j % 2 = 0 then m 20 (j / 2) else m 22 (j / 2)) else if a = 83 then (if j % 2 = 0 then m 21 (j / 2) else m 23 (j / 2))
  else if a = 121 then m 48 j else if a = 51 then m 9 j
  else if a = 62 + 3 * s then m 1 s else if a = 62 + 3 * s + 1 then off (m 2) (12 * s) j else if a = 62 + 3 * s + 2 then off (m 3) (48 * s) j else 0
def DLf (N M : Mem) : Prop := (∀ a, a ≠ 149 → a ≠ 150 → N a = M a)
section ComeL
variable {fu i j s w nS nL nC nO cap a b a9 l9 : Nat} {M m N n : Mem} {R A : List Row} {r : Row} {v : Int32} {kf : Nat → Int32} {co : Option Nat}
theorem mcs_St (hs : s < 6) (hG : DG m nS nL nC nO) (hi : m 19 i = nI s) (hR : RM m s R) (hc : m 9 (s / 2) = nI cap) : St (mcs m s) m i s nS nL nC nO cap R (m 48) := by
  have e : ∀ q, q ≠ 80 → q ≠ 81 → q ≠ 84 → q ≠ 85 → q ≠ 86 → q ≠ 87 → q ≠ 88 → q ≠ 89 → q ≠ 82 → q ≠ 83 → q ≠ 121 → q ≠ 51 → ∀ j, mcs m s q j = if q = 62 + 3 * s then m 1 s else if q = 62 + 3 * s + 1 then off (m 2) (12 * s) j else if q = 62 + 3 * s + 2 then off (m 3) (48 * s) j else 0 := fun q h1 h2 h3 h4 h5 h6 h7 h8 h9 h10 h11 h12 j => by simp only [mcs, h1, h2, h3, h4, h5, h6, h7, h8, h9, h10, h11, h12, if_false]
  refine ⟨⟨⟨rfl, rfl, rfl, rfl, rfl, rfl⟩, ⟨rfl, rfl, rfl, rfl, rfl, rfl, rfl⟩, fun l _ => ⟨?_, ?_, ?_, ?_⟩⟩, hG, hi, ⟨?_, hR.2.1, ?_⟩, hR, rfl, rfl, rfl, hc⟩
  · simp [mcs]
  · simp [mcs]
  · simp [mcs, show (2 * l + 1) % 2 = 1 by omega, show (2 * l + 1) / 2 = l by omega]
  · simp [mcs, show (2 * l + 1) % 2 = 1 by omega, show (2 * l + 1) / 2 = l by omega]
  · rw [e _ (by omega) (by omega) (by omega) (by omega) (by omega) (by omega) (by omega) (by omega) (by omega) (by omega) (by omega) (by omega), if_pos rfl]
    exact hR.1
  · have e1 : mcs m s (62 + 3 * s + 1) = off (m 2) (12 * s) := by
      funext j
      rw [e _ (by omega) (by omega) (by omega) (by omega) (by omega) (by omega) (by omega) (by omega) (by omega) (by omega) (by omega) (by omega), if_neg (by omega), if_pos rfl]
    have e2 : mcs m s (62 + 3 * s + 2) = off (m 3) (48 * s) := by
      funext j
      rw [e _ (by omega) (by omega) (by omega) (by omega) (by omega) (by omega) (by omega) (by omega) (by omega) (by omega) (by omega) (by omega), if_neg (by omega), if_neg (by omega), if_pos rfl]
    rw [e1, e2]
    exact hR.2.2
theorem lkeyL {c : Nat} {k103 : Int32 → Option Mem} (hb : b ≤ l9) (hl : l9 < 2 ^ 20) (hkf : ∀ j, a ≤ j → j < b → M a9 j = kf j) (hv : f_L_at (pk r) (nI c) = v) : ∀ d j n x, j + d = b → d < n → x = bI (kin kf v a j) → a ≤ j → f_L_come_L65 fu (nI c) a9 l9 (nI b) M (pk r) k103 n x (nI j) = k103 (bI (kin kf v a b)) := by
  intro d
  induction d with
  | zero =>
    intro j n x h1 h2 hx ha
    obtain ⟨n, rfl⟩ := fu1 h2
    obtain rfl : j = b := by omega
    simp (disch := omega) only [f_L_come_L65, nI_leI, Nat.le_refl, if_true, hx]
  | succ d ih =>
    intro j n x h1 h2 hx ha
    obtain ⟨n, rfl⟩ := fu1 h2
    have h3 : ¬ b ≤ j := by omega
    have e1 : kin kf v a (j + 1) = (kin kf v a j || decide (kf j = v)) := by simp [kin, an, ha]
    simp (disch := omega) only [f_L_come_L65, nI_leI, h3, if_false, inb_nI, grd_true, nI_clamp, nm_d, nI_1, hkf j ha (by omega), hv]
    refine ih (j + 1) n _ (by omega) (by omega) ?_ (by omega)
    rw [hx, e1]
    by_cases z : kf j = v
    · cases kin kf v a j <;> simp [z, bI] <;> decide
    · cases kin kf v a j <;> simp [z, bI] <;> decide
theorem oI_neg {co : Option Nat} (h : ∀ c, co = some c → c < 4) : (oI co < 0) = (co = none) := by
  cases co with
  | none => exact propext ⟨fun _ => rfl, fun _ => by show -nI 1 < 0; decide⟩
  | some c => exact propext ⟨fun z => absurd z (nI_pos (by have := h c rfl; omega)), fun z => by cases z⟩
theorem bI_and {x y : Bool} : (bI x &&& bI y = 0) = ((x && y) = false) := by cases x <;> cases y <;> decide
theorem lcomeStep {k p n1 : Nat} {k161 k132 : Int32 → Mem → Option Mem} (hfu : 5000 ≤ fu) (hi : i < nS) (hs6 : s < 6) (hD : DL M m nS nL nC nO) (hG : DG m nS nL nC nO) (hR : RWl M s R) (hk : okW R) (hr : R[p]? = some r) (hco : ∀ c, co = some c → c < 4) (hab : a ≤ b) (hb : b ≤ l9) (hl : l9 < 2 ^ 20) (hkf : ∀ j, a ≤ j → j < b → M a9 j = kf j) (hn : n1 ≤ 12) (hb12 : b ≤ 12) (hcap : cap ≤ 12) (hc : M 145 (9 + s / 2) = nI cap) :
    f_L_come_L21 fu (nI i) (oI co) a9 l9 (nI a) (nI b) (nI s) k161 k132 (k + 1) (nI n1) (nI p) M = (if (al (hS m i r) nC && ksel kf co a b r) = true then (if n1 = cap then k132 (nI n1) M else bd (f_L_lay fu 149 30 150 3 (nI i) (pk r) M) (fun M_31 => f_L_come_L21 fu (nI i) (oI co) a9 l9 (nI a) (nI b) (nI s) k161 k132 k (nI (n1 + 1)) (nI (p + 1)) M_31)) else f_L_come_L21 fu (nI i) (oI co) a9 l9 (nI a) (nI b) (nI s) k161 k132 k (nI n1) (nI (p + 1)) M) := by
  have hlp := gl_lt hr
  have h12 := hR.2.1
  have h10 : ¬ R.length ≤ p := by omega
  have e1 : (10 : Int32) * nI s + nI p = nI (10 * s + p) := by rw [show (10 : Int32) = nI 10 from rfl, pk_mul, nI_add]
  have e2 : (9 : Int32) + nI s / 2 = nI (9 + s / 2) := by rw [show nI s / 2 = nI (s / 2) from pk_div (d := 2) (by omega) (by omega) (by omega)]; exact nI_add 9 _
  have e3 : f_L_hold fu (nI i) (pk r) 0 M = some (bI (al (hS m i r) nC)) := lhold_eq (all := false) hfu hD hG hi (hk.at hr).1 (hk.at hr).2
  simp (disch := omega) only [f_L_come_L21, inb_nI, grd_true, nI_clamp, hR.1, nI_leI, h10, if_false, e1, hR.2.2 p r hr, nm_d, e3, bd_some, jn_d, oI_neg hco, e2, hc, nI_1, nI_eq]
  cases hc2 : co with
  | none =>
    rw [if_pos rfl]
    simp only [bI_nz, ksel, Bool.and_true]
    cases al (hS m i r) nC <;> rfl
  | some c =>
    have hc4 := hco c hc2
    rw [if_neg (by simp)]
    have h65 := lkeyL (fu := fu) (M := M) (r := r) (c := c) (v := cel r c) (a := a) (b := b) (a9 := a9) (l9 := l9) (kf := kf) (k103 := fun (x18_37 : Int32) => if (bI (al (hS m i r) nC) &&& x18_37) = 0 then f_L_come_L21 fu (nI i) (oI (some c)) a9 l9 (nI a) (nI b) (nI s) k161 k132 k (nI n1) (nI (p + 1)) M else if n1 = cap then k132 (nI n1) M else bd (f_L_lay fu 149 30 150 3 (nI i) (pk r) M) (fun M_31 => f_L_come_L21 fu (nI i) (oI (some c)) a9 l9 (nI a) (nI b) (nI s) k161 k132 k (nI (n1 + 1)) (nI (p + 1)) M_31)) hb hl hkf (at_pk (hk.at hr).1 (hk.at hr).2 hc4) (b - a) a fu 0 (by omega) (by omega) (by rw [kin_aa]; rfl) (Nat.le_refl _)
    refine Eq.trans h65 ?_
    have hks : ksel kf (some c) a b r = kin kf (cel r c) a b := rfl
    simp only [hks, bI_and]
    by_cases z : (al (hS m i r) nC && kin kf (cel r c) a b) = true
    · rw [if_pos z, if_neg (by rw [z]; decide)]
    · rw [if_neg z, if_pos (by simpa using z)]
/-- the rows of a seat: the law and the reference -/
def SL (M m : Mem) (i : Nat) (A : List Row) : Prop := RWa M 149 150 i A ∧ RS m i A ∧ okW A
theorem comeBoth {k161 k132 : Int32 → Mem → Option Mem} {kk : Int32 → Mem → Option Mem} (hfu : 5000 ≤ fu) (hi : i < nS) (hS3 : nS ≤ 3) (hs6 : s < 6) (hk : okW R) (hco : ∀ c, co = some c → c < 4) (hab : a ≤ b) (hb : b ≤ l9) (hb12 : b ≤ 12) (hl : l9 < 2 ^ 20) (hcap : cap ≤ 12) (ha9 : a9 ≠ 149 ∧ a9 ≠ 150) : ∀ d p k k' (M m : Mem) (A : List Row) (n1 : Nat), p + d = R.length → d < k → d < k' → DL M m nS nL nC nO → DG m nS nL nC nO → m 19 i = nI s → RWl M s R → RM m s R → (∀ j, a ≤ j → j < b → M a9 j = m 48 j) → M 145 (9 + s / 2) = nI cap → m 9 (s / 2) = nI cap → SL M m i A → m 0 62 = 0 → n1 ≤ cap → A.length + ct (rsel (m 48) co a b R) R.length ≤ 10 + ct (rsel (m 48) co a b R) p →
    ∃ N n A' n' cut, f_L_come_L21 fu (nI i) (oI co) a9 l9 (nI a) (nI b) (nI s) k161 k132 k (nI n1) (nI p) M = (if cut = true then k132 (nI n') N else k161 (nI n') N) ∧ f_X11_comes_L19 fu (nI i) (oI co) (nI a) (nI b) (nI s) kk k' (nI n1) (nI p) m = kk (nI n') n ∧ SL N n i A' ∧ n 0 62 = bI cut ∧ n1 ≤ n' ∧ n' ≤ cap ∧ (∀ q, q ≠ 149 → q ≠ 150 → N q = M q) ∧ (∀ q, q ≠ 0 → q ≠ 43 → q ≠ 44 → q ≠ 45 → n q = m q) ∧ (∀ j, j ≠ 62 → n 0 j = m 0 j) ∧ (∀ i' A', i' < 3 → i' ≠ i → SL M m i' A' → SL N n i' A') ∧ A'.length + ct (rsel (m 48) co a b R) p ≤ A.length + ct (rsel (m 48) co a b R) R.length := by
  intro d
  induction d with
  | zero =>
    intro p k k' M m A n1 h1 h2 h3 hD hG hm19 hR hRM hkf hc1 hc2 hA h62 hn hcnt
    obtain ⟨k, rfl⟩ := fu1 h2
    obtain ⟨k', rfl⟩ := fu1 h3
    obtain rfl : p = R.length := by omega
    have h12 := hRM.2.1
    refine ⟨M, m, A, n1, false, ?_, ?_, hA, h62, Nat.le_refl _, hn, fun _ _ _ => rfl, fun _ _ _ _ _ => rfl, fun _ _ => rfl, fun _ _ _ _ h => h, Nat.le_refl _⟩
    · simp (disch := omega) only [f_L_come_L21, inb_nI, grd_true, nI_clamp, hR.1, nI_leI, Nat.le_refl, if_true]
      rfl
    · simp (disch := omega) only [f_X11_comes_L19, lit, nI_add, pk_mul, pk_sub, nI_clamp, inb_nI, nI_leI, nI_ltI, nI_eq, add_m1, ↓reduceIte, grd_true, nm_d, jn_d, bd_some, bm_some, om_some, om_none, hRM.1, Nat.le_refl]
  | succ d ih =>
    intro p k k' M m A n1 h1 h2 h3 hD hG hm19 hR hRM hkf hc1 hc2 hA h62 hn hcnt
    obtain ⟨k, rfl⟩ := fu1 h2
    obtain ⟨k', rfl⟩ := fu1 h3
    obtain ⟨r, hr⟩ := gl_some (R := R) (i := p) (by omega)
    have hok := hk.at hr
    have hct : ct (rsel (m 48) co a b R) (p + 1) = ct (rsel (m 48) co a b R) p + if ksel (m 48) co a b r = true then 1 else 0 := by
      simp only [ct, rsel, hr]
    have hmono := ct_mono (P := rsel (m 48) co a b R) (show p + 1 ≤ R.length by omega)
    rw [lcomeStep hfu hi hs6 hD hG hR hk hr hco hab hb hl hkf (by omega) hb12 hcap hc1, comesStep hfu (by omega) hs6 (mcs_St hs6 hG hm19 hRM hc2) hr hok.2 hco hab hb12 (by omega) hcap]
    cases hsel : (al (hS m i r) nC && ksel (m 48) co a b r) with
    | false =>
      rw [if_neg (by decide), if_neg (by decide)]
      obtain ⟨N, n, A', n', cut, q1, q2, q3, q4, q5, q6, q7, q8, q9, q10, q11⟩ := ih (p + 1) k k' M m A n1 (by omega) (by omega) (by omega) hD hG hm19 hR hRM hkf hc1 hc2 hA h62 hn (by omega)
      exact ⟨N, n, A', n', cut, q1, q2, q3, q4, q5, q6, q7, q8, q9, q10, by omega⟩
    | true =>
      rw [if_pos rfl, if_pos rfl]
      have hks : ksel (m 48) co a b r = true := by simp only [Bool.and_eq_true] at hsel; exact hsel.2
      rw [hks, if_pos rfl] at hct
      by_cases hcut : n1 = cap
      · rw [if_pos hcut, if_pos hcut, hcut]
        refine ⟨M, up m 0 62 1, A, cap, true, by rw [if_pos rfl], ?_, ⟨hA.1, ?_, hA.2.2⟩, by rw [up_s]; rfl, Nat.le_refl _, Nat.le_refl _, fun _ _ _ => rfl, fun q h4 _ _ _ => up_n h4, fun j h4 => up_m h4, fun i' A' h4 h5 h6 => ⟨h6.1, ?_, h6.2.2⟩, by omega⟩
        · have hG2 : DG (up m 0 62 1) nS nL nC nO := hG.cg ⟨fun q _ _ => up_n (by omega), fun j _ _ => up_m (by omega)⟩
          exact comesCut (m := up m 0 62 1) hfu (by omega) hs6 (mcs_St hs6 hG2 (by rw [up_n (by omega)]; exact hm19) (hRM.cg (by rw [up_n (by omega)]) (up_n (by omega)) (up_n (by omega))) (by rw [up_n (by omega)]; exact hc2)) (fun r' h' => (hk r' h').2) hco hab hb12 hcap up_s d (p + 1) k' (by omega) (by omega)
        · exact hA.2.1.cg (by rw [up_n (by omega)]) (up_n (by omega)) (up_n (by omega))
        · exact h6.2.1.cg (by rw [up_n (by omega)]) (up_n (by omega)) (up_n (by omega))
      · rw [if_neg hcut, if_neg hcut]
        have hAl : A.length < 10 := by omega
        obtain ⟨N1, e1, g1⟩ := lay_ok (fu := fu) (M := M) (a0 := 149) (a1 := 150) (s := i) (l0 := 30) (l1 := 3) hfu (by omega) (by omega) (by omega) (by omega) (by omega) (by omega) hA.1 hA.2.2 hAl hok.1 hok.2
        have e2 := lays_eq (fu := fu) (x := 0) hfu (show i < 3 by omega) hm19 hs6 hA.2.1 (by omega) hRM hr
        rw [e1, bd_some, e2, bd_some]
        have f1 : ∀ q, q ≠ 149 → q ≠ 150 → N1 q = M q := g1.2.1
        have f2 : ∀ q, q ≠ 43 → q ≠ 44 → q ≠ 45 → laM m i A r q = m q := fun q z1 z2 z3 => laM_n ⟨z1, z2, z3⟩
        have hSL : SL N1 (laM m i A r) i (insR A r) := ⟨g1.1, laM_RS hA.2.1 (by omega), ins_okW hA.2.2 hok.1 hok.2⟩
        have f48 : laM m i A r 48 = m 48 := f2 48 (by omega) (by omega) (by omega)
        have f0 : laM m i A r 0 = m 0 := f2 0 (by omega) (by omega) (by omega)
        have hins : (insR A r).length = A.length + 1 := insR_len
        have hDS : DS (laM m i A r) m := ⟨fun q _ _ => f2 q (by omega) (by omega) (by omega), fun j _ _ => by rw [f0]⟩
        obtain ⟨N, n, A', n', cut, q1, q2, q3, q4, q5, q6, q7, q8, q9, q10, q11⟩ := ih (p + 1) k k' N1 (laM m i A r) (insR A r) (n1 + 1) (by omega) (by omega) (by omega) (hD.cg (f1 146 (by omega) (by omega)) (fun q _ _ => f2 q (by omega) (by omega) (by omega)) (by rw [f0]) (by rw [f0])) (hG.cg hDS) (by rw [f2 19 (by omega) (by omega) (by omega)]; exact hm19) (hR.cg2 (f1 143 (by omega) (by omega)) (f1 142 (by omega) (by omega))) (hRM.cg (by rw [f2 1 (by omega) (by omega) (by omega)]) (f2 2 (by omega) (by omega) (by omega)) (f2 3 (by omega) (by omega) (by omega))) (fun j z1 z2 => by rw [f1 a9 ha9.1 ha9.2, f48]; exact hkf j z1 z2) (by rw [f1 145 (by omega) (by omega)]; exact hc1) (by rw [f2 9 (by omega) (by omega) (by omega)]; exact hc2) hSL (by rw [f0]; exact h62) (by omega) (by rw [f48]; omega)
        rw [f48] at q11
        refine ⟨N, n, A', n', cut, q1, q2, q3, q4, by omega, q6, fun q z1 z2 => by rw [q7 q z1 z2, f1 q z1 z2], fun q z1 z2 z3 z4 => by rw [q8 q z1 z2 z3 z4, f2 q z2 z3 z4], fun j z1 => by rw [q9 j z1, f0], fun i' B z1 z2 z3 => q10 i' B z1 z2 ⟨g1.o z2 z3.1, laM_RS' z3.2.1 z2 (by omega), z3.2.2⟩, by omega⟩
end ComeL
