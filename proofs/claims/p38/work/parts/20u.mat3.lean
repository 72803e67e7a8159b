/-! ===== all matches: the law and the reference ===== -/
def hJ (mm : Mem) (nS nC : Nat) (A : Nat → List Row) (j p : Nat) : Bool := if j < nS then (match (A j)[p]? with | some r => al (hA mm j r) nC | none => false) else true
def nJ (nS : Nat) (A : Nat → List Row) (j : Nat) : Nat := if j < nS then (A j).length else 1
def RJ (A : Nat → List Row) (i j k s : Nat) : Row := ((A s)[ix3 i j k s]?).getD (0, 0, 0, 0, 0)
def LMs (M : Mem) (a1 a2 : Nat) (mm : Mem) (nS nL nC nO : Nat) (A : Nat → List Row) : Prop := DL M mm nS nL nC nO ∧ DG mm nS nL nC nO ∧ ∀ s, s < nS → RWa M a1 a2 s (A s) ∧ okW (A s)
def lstep (fu a1 a3 : Nat) (i j k made : Int32) (M_33 : Mem) (K : Int32 → Mem → Option (Int32 × Mem)) : Option (Int32 × Mem) := if (M_33 146 5) = 1 then bm (f_L_group fu a1 a3 i j k made M_33) K else if (M_33 146 4) ≤ made then K made M_33 else f_L_match_L198 fu a1 a3 i j made k (fun M_45 => K (made + 1) M_45) fu 0 M_33
section Mat3
variable {fu a1 a2 a3 i j k l s c q x a b nS nL nC nO lim made : Nat} {M m N n mm P M0 : Mem} {A F : Nat → List Row} {R : Nat → Row} {V : List Int32} {xx : Nat → Int32} {k170 : Mem → Option Mem}
theorem filt_take {f : Row → Bool} {L : List Row} : ∀ p, p ≤ L.length → ((L.take p).filter f).length = ct (fun q => match L[q]? with | some r => f r | none => false) p := by
  intro p
  induction p with
  | zero => intro _; simp [ct]
  | succ p ih =>
    intro h
    have ih' := ih (by omega)
    obtain ⟨r, hr⟩ := gl_some (R := L) (i := p) (by omega)
    have ht : L.take (p + 1) = L.take p ++ [r] := by
      rw [List.take_succ, hr]; rfl
    rw [ht, List.filter_append, List.length_append, ih']
    simp only [ct, hr]
    cases hf : f r <;> simp [hf]
theorem filt_len {f : Row → Bool} {L : List Row} : (L.filter f).length = ct (fun q => match L[q]? with | some r => f r | none => false) L.length := by
  have := filt_take (f := f) (L := L) L.length (Nat.le_refl _)
  rw [List.take_length] at this
  exact this
theorem filt_at {f : Row → Bool} {L : List Row} {p : Nat} {r : Row} (hr : L[p]? = some r) (hf : f r = true) : (L.filter f)[ct (fun q => match L[q]? with | some r => f r | none => false) p]? = some r := by
  have hp := gl_lt hr
  have h1 := filt_take (f := f) (L := L) p (by omega)
  have h2 : L.filter f = (L.take p).filter f ++ (r :: (L.drop (p + 1)).filter f) := by
    have e : L = L.take p ++ (r :: L.drop (p + 1)) := by
      rw [List.getElem?_eq_getElem hp] at hr
      cases hr
      rw [← List.drop_eq_getElem_cons hp, List.take_append_drop]
    conv => lhs; rw [e]
    rw [List.filter_append, List.filter_cons, if_pos hf]
  rw [h2, ← h1, List.getElem?_append_right (Nat.le_refl _), Nat.sub_self]
  rfl
theorem hJ_nn (j : Nat) : nnF (FF mm nC A) nS j = ct (hJ mm nS nC A j) (nJ nS A j) := by
  by_cases h : j < nS
  · have e : hJ mm nS nC A j = fun q => match (A j)[q]? with | some r => al (hA mm j r) nC | none => false := by
      funext q; simp only [hJ, h, if_true]
    simp only [nnF, nJ, h, if_true, FF]
    rw [filt_len, e]
  · have e : hJ mm nS nC A j = fun _ => true := by funext q; simp only [hJ, h, if_false]
    simp only [nnF, nJ, h, if_false, e, ct, if_true]
theorem chR_RJ (h0 : hJ mm nS nC A 0 i = true) (h1 : hJ mm nS nC A 1 j = true) (h2 : hJ mm nS nC A 2 k = true) (hS3 : nS ≤ 3) (hs : s < nS) : chR (FF mm nC A) (ct (hJ mm nS nC A 0) i) (ct (hJ mm nS nC A 1) j) (ct (hJ mm nS nC A 2) k) s = RJ A i j k s ∧ (A s)[ix3 i j k s]? = some (RJ A i j k s) := by
  have key : ∀ p, hJ mm nS nC A s p = true → ∃ r, (A s)[p]? = some r ∧ (FF mm nC A s)[ct (hJ mm nS nC A s) p]? = some r := fun p hp => by
    have e : hJ mm nS nC A s = fun q => match (A s)[q]? with | some r => al (hA mm s r) nC | none => false := by
      funext q; simp only [hJ, hs, if_true]
    simp only [hJ, hs, if_true] at hp
    cases hr : (A s)[p]? with
    | none => rw [hr] at hp; cases hp
    | some r =>
      rw [hr] at hp
      refine ⟨r, rfl, ?_⟩
      rw [e]
      exact filt_at hr hp
  have h3 : s = 0 ∨ s = 1 ∨ s = 2 := by omega
  rcases h3 with rfl | rfl | rfl
  · obtain ⟨r, r1, r2⟩ := key i h0
    have e1 : RJ A i j k 0 = r := by simp only [RJ, ix3, if_true]; rw [r1]; rfl
    exact ⟨by simp only [chR, if_true]; rw [r2, e1]; rfl, by rw [e1]; exact r1⟩
  · obtain ⟨r, r1, r2⟩ := key j h1
    have e1 : RJ A i j k 1 = r := by show ((A 1)[j]?).getD _ = r; rw [r1]; rfl
    exact ⟨by show ((FF mm nC A 1)[ct (hJ mm nS nC A 1) j]?).getD _ = _; rw [r2, e1]; rfl, by rw [e1]; exact r1⟩
  · obtain ⟨r, r1, r2⟩ := key k h2
    have e1 : RJ A i j k 2 = r := by show ((A 2)[k]?).getD _ = r; rw [r1]; rfl
    exact ⟨by show ((FF mm nC A 2)[ct (hJ mm nS nC A 2) k]?).getD _ = _; rw [r2, e1]; rfl, by rw [e1]; exact r1⟩
theorem LMs.cg (h : LMs M a1 a2 mm nS nL nC nO A) (ha : a3 ≠ 146 ∧ a3 ≠ a1 ∧ a3 ≠ a2) (f : ∀ x, x ≠ a3 → N x = M x) : LMs N a1 a2 mm nS nL nC nO A := ⟨h.1.cg (f 146 (by omega)) (fun _ _ _ => rfl) rfl rfl, h.2.1, fun s hs => ⟨(h.2.2 s hs).1.cg2 (f a2 (by omega)) (f a1 (by omega)), (h.2.2 s hs).2⟩⟩
theorem LMs.p (h : LMs M a1 a2 mm nS nL nC nO A) (h0 : hJ mm nS nC A 0 i = true) (h1 : hJ mm nS nC A 1 j = true) (h2 : hJ mm nS nC A 2 k = true) : LPk M a1 a2 nS A i j k (RJ A i j k) := fun s hs => ⟨(h.2.2 s hs).1, (h.2.2 s hs).2, (chR_RJ h0 h1 h2 h.2.1.1.2 hs).2⟩
theorem lk1_R {R' : Nat → Row} (hG : DG mm nS nL nC nO) (h : ∀ s, s < nS → R s = R' s) : al (lk1 mm R) nL = al (lk1 mm R') nL := by
  have : ∀ l, l ≤ nL → al (lk1 mm R) l = al (lk1 mm R') l := fun l => by
    induction l with
    | zero => intro _; rfl
    | succ l ih =>
      intro hl
      obtain ⟨a, b, c, d, _, _, _, _, q5, q6, _, _, q9⟩ := lk_get hG (show l < nL by omega)
      simp only [al, ih (by omega), q9, h a (by omega), h b q6]
  exact this nL (Nat.le_refl _)
theorem ERl.up {made' : Nat} {x' : Nat → Int32} (h : ERl mm F made xx m nS nL nC nO lim V) (hm : made' ≤ 20) (g6 : ∀ x, x ≠ 0 → x ≠ 52 → x ≠ 53 → x ≠ 54 → x ≠ 55 → n x = m x) (g7 : ∀ j, j ≠ 68 → j ≠ 71 → n 0 j = m 0 j) (hl : if m 0 38 = 0 then MS0 (fkM mm F (nI made') x') 90 n nO lim else GS (fkM mm F (nI made') x') 90 n V) : ERl mm F made' x' n nS nL nC nO lim V := by
  obtain ⟨⟨h1, h2, ⟨h3, h4, h5, h5'⟩, h6, h7⟩, h8⟩ := h
  have hD : DS n m := ⟨fun x _ _ => g6 x (by omega) (by omega) (by omega) (by omega) (by omega), fun j _ _ => g7 j (by omega) (by omega)⟩
  refine ⟨⟨fk_DR (h2.cg hD) (hD.trans h5'), h2.cg hD, ⟨by rw [g7 37 (by omega) (by omega)]; exact h3, h4, ⟨fun x z1 z2 z3 => fk_n z1 z2, fun j hj => fk_90 hj, fun x z1 z2 z3 z4 z5 z6 => by rw [g6 x z1 z3 z4 z5 z6]; exact h5.2.2.1 x z1 z2 z3 z4 z5 z6, fun j z1 z2 => by rw [g7 j z1 z2]; exact h5.2.2.2 j z1 z2⟩, hD.trans h5'⟩, fun j hj => ?_, ?_⟩, hm⟩
  · obtain ⟨y1, y2, y3⟩ := h6 j hj
    exact ⟨fk_RC y1.2.1, y2.cg (by rw [g6 49 (by omega) (by omega) (by omega) (by omega) (by omega)]) (fun x _ => by rw [g6 50 (by omega) (by omega) (by omega) (by omega) (by omega)]), y3⟩
  · rw [g7 38 (by omega) (by omega)]; exact hl
theorem ltuple {kf : Nat} {K : Int32 → Mem → Option (Int32 × Mem)} (hfu : 5000 ≤ fu) (hO : 0 < nO) (hV : V.length ≤ 12) (hVm : ∀ R : Nat → Row, (∀ j, j < nS → R j ∈ FF mm nC A j) → ov mm R 0 ∈ V) (hM : LMs M a1 a2 mm nS nL nC nO A) (ha3 : a3 ≠ 146 ∧ a3 ≠ a1 ∧ a3 ≠ a2) (h : ERl mm (FF mm nC A) made (M a3) m nS nL nC nO lim V) (h0 : hJ mm nS nC A 0 i = true) (h1 : hJ mm nS nC A 1 j = true) (h2 : hJ mm nS nC A 2 k = true) (ha : ct (hJ mm nS nC A 0) i < nnF (FF mm nC A) nS 0) (hb : ct (hJ mm nS nC A 1) j < nnF (FF mm nC A) nS 1) (hc : ct (hJ mm nS nC A 2) k < nnF (FF mm nC A) nS 2) (hA : AT m nS (ct (hJ mm nS nC A 0) i) (ct (hJ mm nS nC A 1) j) (ct (hJ mm nS nC A 2) k)) (hlk : al (lk1 mm (RJ A i j k)) nL = true) : ∃ N n made', lstep fu a1 a3 (nI i) (nI j) (nI k) (nI made) M K = K (nI made') N ∧ f_X11_makes_L126 fu k170 (kf + 1) 1 m = waitM fu k170 kf n ∧ ERl mm (FF mm nC A) made' (N a3) n nS nL nC nO lim V ∧ AT n nS (ct (hJ mm nS nC A 0) i) (ct (hJ mm nS nC A 1) j) (ct (hJ mm nS nC A 2) k) ∧ ∀ x, x ≠ a3 → N x = M x := by
  have hS3 := hM.2.1.1.2
  have hch : ∀ s, s < nS → chR (FF mm nC A) (ct (hJ mm nS nC A 0) i) (ct (hJ mm nS nC A 1) j) (ct (hJ mm nS nC A 2) k) s = RJ A i j k s := fun s hs => (chR_RJ h0 h1 h2 hS3 hs).1
  have hP := hM.p h0 h1 h2
  have eL := areLk (k := kf) hfu h.1 ha hb hc hA
  rw [lk1_R hM.2.1 hch, hlk] at eL
  rw [body eL, if_pos rfl]
  obtain ⟨g1, g2, ⟨g3, g4, g5, g5'⟩, g6, g7⟩ := (id h.1)
  have hPM : ∀ s, s < nS → PM m (FF mm nC A) s (RJ A i j k s) := fun s hs => by
    have := pms h.1 ha hb hc hA hs
    rw [hch s hs] at this
    exact this
  have h38 : M 146 5 = m 0 38 := by rw [g5'.2 38 (by omega) (by omega)]; exact hM.1.1.2.2.2.2.2.1
  have h37 : M 146 4 = nI lim := by rw [← g3, g5'.2 37 (by omega) (by omega)]; exact hM.1.1.2.2.2.2.1
  obtain ⟨kl, kl1, kl2, kl3⟩ := hM.1.1.2.2.2.2.2.2
  have hlim : lim ≤ 20 := by
    have : nI lim = nI kl := by rw [← g3, g5'.2 37 (by omega) (by omega)]; exact kl3
    have := (nI_eq (by omega) (by omega)).mp this
    omega
  unfold lstep
  rw [h38, h37]
  by_cases z38 : m 0 38 = 0
  · rw [if_pos z38]
    rw [if_pos z38] at g7
    obtain ⟨mk', k1, k2, k3, k4⟩ := g7
    rw [fk_5] at k2
    have hmk : made = mk' := (nI_eq (by have := h.2; omega) (by omega)).mp k2
    subst hmk
    obtain ⟨n, r1, r2, r3, r4, r5⟩ := radds0 (fu := fu) hfu g2 g4 g3 hPM k1 k3
    rw [r1, bd_some, if_neg (by rw [z38]; decide)]
    have hA' : AT n nS (ct (hJ mm nS nC A 0) i) (ct (hJ mm nS nC A 1) j) (ct (hJ mm nS nC A 2) k) := by rw [AT, r4 51 (by omega) (by omega)]; exact hA
    by_cases hk : lim ≤ made
    · rw [if_pos ((nI_leI (by omega) (by omega)).mpr hk)]
      have := r2 hk
      subst this
      exact ⟨M, n, made, rfl, rfl, h, hA', fun _ _ => rfl⟩
    · rw [if_neg (fun z => hk ((nI_leI (by omega) (by omega)).mp z))]
      obtain ⟨N, s1, s2, s3, s4⟩ := lcopyL (fu := fu) (a3 := a3) (made := made) (K := fun M_45 => K (nI made + 1) M_45) hM.1 hM.2.1 hP ha3 (by omega) nO 0 fu M (by omega) (by have := hM.2.1.2.2.2.1.2; omega) (fun _ _ => rfl) (fun x hx => by omega) (fun _ _ => rfl)
      obtain ⟨t1, t2, t3⟩ := r3 (by omega)
      refine ⟨N, n, made + 1, by rw [show (0 : Int32) = nI 0 from rfl, s1, nI_1], rfl, h.up (by omega) (fun x z1 z2 _ _ _ => r4 x z1 z2) (fun j z1 _ => r5 j z1) ?_, hA', s2⟩
      rw [if_pos z38]
      refine ⟨made + 1, by omega, fk_5, t1, fun x o hx ho => ?_⟩
      rw [show (90 + 1) = 91 by omega, fk_91]
      by_cases hxk : x = made
      · subst hxk
        rw [s3 o ho, t2 o ho, ov_ds g5']
      · have hO3 := hM.2.1.2.2.2.1.2
        rw [s4 _ (by omega), t3 _ (by omega)]
        have := k4 x o (by omega) ho
        rw [show (90 + 1) = 91 by omega, fk_91] at this
        exact this
  · rw [if_neg z38]
    rw [if_neg z38] at g7
    have h1' : m 0 38 = 1 := by
      rcases g2.2.2.2.2.2.1 with hz | hz
      · exact absurd hz z38
      · exact hz
    have hv : ov m (RJ A i j k) 0 ∈ V := by
      rw [ov_ds g5']
      refine hVm _ (fun s hs => ?_)
      rw [← hch s hs]
      exact chR_mem h.1 ha hb hc hs
    obtain ⟨N, n, made', r1, r2, r3, r4, r5, r6, r7⟩ := lmatch1 (fu := fu) (a3 := a3) hfu hM.1 hM.2.1 g5' hP g2 z38 hO hPM hV hv g7 h.2
    rw [if_pos h1', r1, bm_some, r2, bd_some]
    exact ⟨N, n, made', rfl, rfl, h.up r4 (fun x z1 _ z3 z4 z5 => r6 x z1 z3 z4 z5) (fun j _ z2 => r7 j z2) (by rw [if_neg z38]; exact r3), by rw [AT, r6 51 (by omega) (by omega) (by omega) (by omega)]; exact hA, r5⟩
/-! one step of the inner loop -/
theorem ct_succ {P : Nat → Bool} {p : Nat} : ct P (p + 1) = ct P p + if P p = true then 1 else 0 := rfl
theorem l102z {k243 : Int32 → Mem → Option (Int32 × Mem)} {nk : Nat} {x4 : Int32} (hM : LMs M a1 a2 mm nS nL nC nO A) : f_L_match_L102 fu a1 a2 a3 (nI i) (nI j) k243 (nk + 1) x4 (nI (nJ nS A 2)) M = k243 x4 M := by
  have hS3 := hM.2.1.1.2
  simp only [f_L_match_L102, nm_d]
  by_cases h : nS ≤ 2
  · have h1 : M 146 0 ≤ 2 := by rw [hM.1.1.1, lit, nI_leI (by omega) (by omega)]; exact h
    have h2 : nJ nS A 2 = 1 := by simp only [nJ, show ¬ 2 < nS by omega, if_false]
    rw [if_pos h1, h2, if_pos (show (1 : Int32) ≤ nI 1 by decide)]
  · have h1 : ¬ M 146 0 ≤ 2 := by rw [hM.1.1.1, lit, nI_leI (by omega) (by omega)]; exact h
    have h2 : nJ nS A 2 = (A 2).length := by simp only [nJ, show 2 < nS by omega, if_true]
    have h3 := (hM.2.2 2 (by omega)).1
    have := h3.2.1
    rw [if_neg h1, h3.1, h2, if_pos ((nI_leI (by omega) (by omega)).mpr (Nat.le_refl _))]
theorem l102s {k243 : Int32 → Mem → Option (Int32 × Mem)} {nk : Nat} {x4 : Int32} (hfu : 5000 ≤ fu) (hM : LMs M a1 a2 mm nS nL nC nO A) (hk : k < nJ nS A 2) (h0 : hJ mm nS nC A 0 i = true) (h1 : hJ mm nS nC A 1 j = true) : f_L_match_L102 fu a1 a2 a3 (nI i) (nI j) k243 (nk + 1) x4 (nI k) M = if hJ mm nS nC A 2 k = true then (if al (lk1 mm (RJ A i j k)) nL = true then lstep fu a1 a3 (nI i) (nI j) (nI k) x4 M (fun x M => f_L_match_L102 fu a1 a2 a3 (nI i) (nI j) k243 nk x (nI (k + 1)) M) else f_L_match_L102 fu a1 a2 a3 (nI i) (nI j) k243 nk x4 (nI (k + 1)) M) else f_L_match_L102 fu a1 a2 a3 (nI i) (nI j) k243 nk x4 (nI (k + 1)) M := by
  have hS3 := hM.2.1.1.2
  have core : hJ mm nS nC A 2 k = true → bd (f_L_linked fu a1 (nI i) (nI j) (nI k) M) (fun r_39 => (if r_39 = 0 then f_L_match_L102 fu a1 a2 a3 (nI i) (nI j) k243 nk x4 (nI (k + 1)) M else lstep fu a1 a3 (nI i) (nI j) (nI k) x4 M (fun x M => f_L_match_L102 fu a1 a2 a3 (nI i) (nI j) k243 nk x (nI (k + 1)) M))) = (if al (lk1 mm (RJ A i j k)) nL = true then lstep fu a1 a3 (nI i) (nI j) (nI k) x4 M (fun x M => f_L_match_L102 fu a1 a2 a3 (nI i) (nI j) k243 nk x (nI (k + 1)) M) else f_L_match_L102 fu a1 a2 a3 (nI i) (nI j) k243 nk x4 (nI (k + 1)) M) := fun h2 => by
    rw [llinked hfu hM.1 hM.2.1 (hM.p h0 h1 h2), bd_some]
    cases al (lk1 mm (RJ A i j k)) nL
    · rw [if_pos (show bI false = 0 from rfl), if_neg (by decide)]
    · rw [if_neg (show ¬ bI true = 0 by decide), if_pos rfl]
  have eqs : f_L_match_L102 fu a1 a2 a3 (nI i) (nI j) k243 (nk + 1) x4 (nI k) M = (if (if M 146 0 ≤ 2 then 1 else M a2 2) ≤ nI k then k243 x4 M else if M 146 0 ≤ 2 then bd (f_L_linked fu a1 (nI i) (nI j) (nI k) M) (fun r_39 => (if r_39 = 0 then f_L_match_L102 fu a1 a2 a3 (nI i) (nI j) k243 nk x4 (nI k + 1) M else lstep fu a1 a3 (nI i) (nI j) (nI k) x4 M (fun x M => f_L_match_L102 fu a1 a2 a3 (nI i) (nI j) k243 nk x (nI k + 1) M))) else grd (inb (20 + nI k) 30) (bd (f_L_hold fu 2 (lg (M a1) (20 + nI k).toNatClampNeg) 1 M) (fun r_64 => (if r_64 = 0 then f_L_match_L102 fu a1 a2 a3 (nI i) (nI j) k243 nk x4 (nI k + 1) M else bd (f_L_linked fu a1 (nI i) (nI j) (nI k) M) (fun r_39 => (if r_39 = 0 then f_L_match_L102 fu a1 a2 a3 (nI i) (nI j) k243 nk x4 (nI k + 1) M else lstep fu a1 a3 (nI i) (nI j) (nI k) x4 M (fun x M => f_L_match_L102 fu a1 a2 a3 (nI i) (nI j) k243 nk x (nI k + 1) M))))))) := rfl
  rw [eqs, nI_1]
  by_cases h : nS ≤ 2
  · have h1 : M 146 0 ≤ 2 := by rw [hM.1.1.1, lit, nI_leI (by omega) (by omega)]; exact h
    have h2 : nJ nS A 2 = 1 := by simp only [nJ, show ¬ 2 < nS by omega, if_false]
    have hk0 : k = 0 := by omega
    have hh : hJ mm nS nC A 2 k = true := by simp only [hJ, show ¬ 2 < nS by omega, if_false]
    rw [if_pos h1, if_pos h1, if_pos hh, if_neg (by rw [hk0]; decide)]
    exact core hh
  · have h1' : ¬ M 146 0 ≤ 2 := by rw [hM.1.1.1, lit, nI_leI (by omega) (by omega)]; exact h
    have h2 : nJ nS A 2 = (A 2).length := by simp only [nJ, show 2 < nS by omega, if_true]
    obtain ⟨h3, h3'⟩ := hM.2.2 2 (by omega)
    have h10 := h3.2.1
    obtain ⟨r, hr⟩ := gl_some (R := A 2) (i := k) (by omega)
    have hh : hJ mm nS nC A 2 k = al (hA mm 2 r) nC := by simp only [hJ, show 2 < nS by omega, if_true, hr]
    have e1 : (20 : Int32) + nI k = nI (10 * 2 + k) := nI_add 20 k
    have hho : f_L_hold fu 2 (pk r) 1 M = some (bI (al (hA mm 2 r) nC)) := lhold_eq (all := true) (i := 2) hfu hM.1 hM.2.1 (by omega) (h3'.at hr).1 (h3'.at hr).2
    rw [if_neg h1', if_neg h1', h3.1, if_neg (by rw [nI_leI (by omega) (by omega)]; omega), e1, inb_nI (by omega) (by omega), grd_true, nI_clamp (by omega), h3.2.2 k r hr, hho, bd_some, hh]
    cases hz : al (hA mm 2 r) nC
    · rw [if_pos (show bI false = 0 from rfl), if_neg (by decide)]
    · rw [if_neg (show ¬ bI true = 0 by decide), if_pos rfl]
      exact core (by rw [hh]; exact hz)
theorem ltail2 {k243 : Int32 → Mem → Option (Int32 × Mem)} {x4 : Int32} (hfu : 5000 ≤ fu) (hM : LMs M a1 a2 mm nS nL nC nO A) (h0 : hJ mm nS nC A 0 i = true) (h1 : hJ mm nS nC A 1 j = true) : ∀ d k nk, k + d = nJ nS A 2 → d < nk → ct (hJ mm nS nC A 2) k = nnF (FF mm nC A) nS 2 → f_L_match_L102 fu a1 a2 a3 (nI i) (nI j) k243 nk x4 (nI k) M = k243 x4 M := by
  intro d
  induction d with
  | zero =>
    intro k nk e1 e2 e3
    obtain ⟨nk, rfl⟩ := fu1 e2
    obtain rfl : k = nJ nS A 2 := by omega
    exact l102z hM
  | succ d ih =>
    intro k nk e1 e2 e3
    obtain ⟨nk, rfl⟩ := fu1 e2
    have hf : hJ mm nS nC A 2 k = false := by
      cases hh : hJ mm nS nC A 2 k with
      | false => rfl
      | true =>
        have h3 := ct_mono (P := hJ mm nS nC A 2) (show k + 1 ≤ nJ nS A 2 by omega)
        rw [← hJ_nn, ct_succ, hh, if_pos rfl] at h3
        omega
    rw [l102s hfu hM (by omega) h0 h1, hf, if_neg (by decide)]
    exact ih (k + 1) nk (by omega) (by omega) (by rw [ct_succ, hf, if_neg (by decide), Nat.add_zero]; exact e3)
theorem linner {Q : Option (Int32 × Mem) → Option Mem → Prop} {k243 : Int32 → Mem → Option (Int32 × Mem)} (hfu : 5000 ≤ fu) (hS0 : 0 < nS) (hO : 0 < nO) (hV : V.length ≤ 12) (hVm : ∀ R : Nat → Row, (∀ j, j < nS → R j ∈ FF mm nC A j) → ov mm R 0 ∈ V) (hM0 : LMs M0 a1 a2 mm nS nL nC nO A) (ha3 : a3 ≠ 146 ∧ a3 ≠ a1 ∧ a3 ≠ a2) (h0 : hJ mm nS nC A 0 i = true) (h1 : hJ mm nS nC A 1 j = true) (ha : ct (hJ mm nS nC A 0) i < nnF (FF mm nC A) nS 0) (hb : ct (hJ mm nS nC A 1) j < nnF (FF mm nC A) nS 1)
    (hk : ∀ N n made fl, ERl mm (FF mm nC A) made (N a3) n nS nL nC nO lim V → (∀ x, x ≠ a3 → N x = M0 x) → AT n nS (ct (hJ mm nS nC A 0) i) (ct (hJ mm nS nC A 1) j) (nnF (FF mm nC A) nS 2 - 1) → meas (FF mm nC A) nS (ct (hJ mm nS nC A 0) i) (ct (hJ mm nS nC A 1) j) (nnF (FF mm nC A) nS 2 - 1) < fl → Q (k243 (nI made) N) (waitM fu k170 fl n)) : ∀ d k nk fl (M m : Mem) made, k + d = nJ nS A 2 → d < nk → ct (hJ mm nS nC A 2) k < nnF (FF mm nC A) nS 2 → meas (FF mm nC A) nS (ct (hJ mm nS nC A 0) i) (ct (hJ mm nS nC A 1) j) (ct (hJ mm nS nC A 2) k) + 1 < fl → ERl mm (FF mm nC A) made (M a3) m nS nL nC nO lim V → (∀ x, x ≠ a3 → M x = M0 x) → AT m nS (ct (hJ mm nS nC A 0) i) (ct (hJ mm nS nC A 1) j) (ct (hJ mm nS nC A 2) k) → Q (f_L_match_L102 fu a1 a2 a3 (nI i) (nI j) k243 nk (nI made) (nI k) M) (f_X11_makes_L126 fu k170 fl 1 m) := by
  intro d
  induction d with
  | zero =>
    intro k nk fl M m made e1 e2 e3
    rw [hJ_nn 2, show k = nJ nS A 2 by omega] at e3
    omega
  | succ d ih =>
    intro k nk fl M m made e1 e2 e3 e4 hE hF hAT
    obtain ⟨nk, rfl⟩ := fu1 e2
    obtain ⟨fl, rfl⟩ := fu1 e4
    have hM := hM0.cg ha3 hF
    rw [l102s hfu hM (by omega) h0 h1]
    cases hh : hJ mm nS nC A 2 k with
    | false =>
      rw [if_neg (by decide)]
      have hc : ct (hJ mm nS nC A 2) (k + 1) = ct (hJ mm nS nC A 2) k := by rw [ct_succ, hh, if_neg (by decide), Nat.add_zero]
      exact ih (k + 1) nk (fl + 1) M m made (by omega) (by omega) (by rw [hc]; exact e3) (by rw [hc]; exact e4) hE hF (by rw [hc]; exact hAT)
    | true =>
      rw [if_pos rfl]
      have hc : ct (hJ mm nS nC A 2) (k + 1) = ct (hJ mm nS nC A 2) k + 1 := by rw [ct_succ, hh, if_pos rfl]
      have hch : ∀ s, s < nS → chR (FF mm nC A) (ct (hJ mm nS nC A 0) i) (ct (hJ mm nS nC A 1) j) (ct (hJ mm nS nC A 2) k) s = RJ A i j k s := fun s hs => (chR_RJ h0 h1 hh hM.2.1.1.2 hs).1
      -- what comes behind it
      have next : ∀ N n made', ERl mm (FF mm nC A) made' (N a3) n nS nL nC nO lim V → (∀ x, x ≠ a3 → N x = M0 x) → AT n nS (ct (hJ mm nS nC A 0) i) (ct (hJ mm nS nC A 1) j) (ct (hJ mm nS nC A 2) k) → Q (f_L_match_L102 fu a1 a2 a3 (nI i) (nI j) k243 nk (nI made') (nI (k + 1)) N) (waitM fu k170 fl n) := by
        intro N n made' hE' hF' hAT'
        by_cases hlast : ct (hJ mm nS nC A 2) k + 1 = nnF (FF mm nC A) nS 2
        · rw [ltail2 hfu (hM0.cg ha3 hF') h0 h1 d (k + 1) nk (by omega) (by omega) (by rw [hc]; exact hlast)]
          have hcn : ct (hJ mm nS nC A 2) k = nnF (FF mm nC A) nS 2 - 1 := by omega
          rw [hcn] at hAT' e4
          exact hk N n made' fl hE' hF' hAT' (by omega)
        · obtain ⟨n', y1, y2⟩ := wait_ok (fu := fu) (k170 := k170) (k := fl) hfu (by omega) hE'.1 hS0 ha hb e3 hAT'
          have hms : meas (FF mm nC A) nS (ct (hJ mm nS nC A 0) i) (ct (hJ mm nS nC A 1) j) (ct (hJ mm nS nC A 2) k + 1) + 1 = meas (FF mm nC A) nS (ct (hJ mm nS nC A 0) i) (ct (hJ mm nS nC A 1) j) (ct (hJ mm nS nC A 2) k) := by simp only [meas]; omega
          rcases y2 with ⟨x1, x2, x3⟩ | ⟨x1, _⟩ | ⟨x1, _⟩ | ⟨x1, _⟩
          · rw [x2]
            exact ih (k + 1) nk fl N n' made' (by omega) (by omega) (by omega) (by rw [hc]; omega) ⟨y1, hE'.2⟩ hF' (by rw [hc]; exact x3)
          · omega
          · omega
          · omega
      cases hlk : al (lk1 mm (RJ A i j k)) nL with
      | false =>
        rw [if_neg (by decide), skip1 (k := fl) hfu hE.1 ha hb e3 hAT (by rw [lk1_R hM.2.1 hch]; exact hlk)]
        exact next M m made hE hF hAT
      | true =>
        rw [if_pos rfl]
        obtain ⟨N, n, made', t1, t2, t3, t4, t5⟩ := ltuple (fu := fu) (kf := fl) (k170 := k170) (K := fun x M => f_L_match_L102 fu a1 a2 a3 (nI i) (nI j) k243 nk x (nI (k + 1)) M) hfu hO hV hVm hM ha3 hE h0 h1 hh ha hb e3 hAT hlk
        rw [t1, t2]
        exact next N n made' t3 (fun x hx => by rw [t5 x hx, hF x hx]) t4
end Mat3
