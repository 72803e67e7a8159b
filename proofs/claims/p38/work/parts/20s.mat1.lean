/-! ===== matches: cells, links, groups ===== -/
def CGx (made : Int32) (x : Nat → Int32) (G : List Grp) : Prop := made = nI G.length ∧ ∀ i e, G[i]? = some e → x (3 * i) = e.1 ∧ x (3 * i + 1) = e.2.1 ∧ x (3 * i + 2) = e.2.2
def ix3 (i j k s : Nat) : Nat := if s = 0 then i else if s = 1 then j else k
def LPk (M : Mem) (a1 a2 nS : Nat) (A : Nat → List Row) (i j k : Nat) (R : Nat → Row) : Prop := ∀ s, s < nS → RWa M a1 a2 s (A s) ∧ okW (A s) ∧ (A s)[ix3 i j k s]? = some (R s)
def lg146 (a3 : Nat) (last x9_6 x10_8 : Int32) (M_9 : Mem) : Option (Int32 × Mem) := grd (inb ((3 * x9_6) + 1) 60) (nm (up M_9 a3 ((3 * x9_6) + 1).toNatClampNeg ((M_9 a3 ((3 * x9_6) + 1).toNatClampNeg) + 1)) (fun M_11 => grd (inb ((3 * x9_6) + 2) 60) (nm ((if (f_L_isNumber last) = 0 then 0 else last) : Int32) (fun v_15 => nm (up M_11 a3 ((3 * x9_6) + 2).toNatClampNeg ((M_11 a3 ((3 * x9_6) + 2).toNatClampNeg) + v_15)) (fun M_16 => some (x10_8, M_16))))))
def lg20 (a3 : Nat) (v last made x9_6 : Int32) (M_20 : Mem) : Option (Int32 × Mem) := grd (inb (3 * x9_6) 60) (nm (up M_20 a3 (3 * x9_6).toNatClampNeg v) (fun M_22 => grd (inb ((3 * x9_6) + 1) 60) (nm (up M_22 a3 ((3 * x9_6) + 1).toNatClampNeg 0) (fun M_24 => grd (inb ((3 * x9_6) + 2) 60) (nm (up M_24 a3 ((3 * x9_6) + 2).toNatClampNeg 0) (fun M_26 => nm (made + 1) (fun x10_27 => lg146 a3 last x9_6 x10_27 M_26)))))))
def lgPut (fu a3 : Nat) (v last made : Int32) (M : Mem) (x9_6 : Int32) : Option (Int32 × Mem) := nm ((3 * made) + 2) (fun x11_18 => f_L_group_L90 fu a3 x9_6 (lg20 a3 v last made x9_6) fu x11_18 M)
section Mat1
variable {fu a1 a2 a3 i j k l s c q x nS nL nC nO : Nat} {M m N n : Mem} {A : Nat → List Row} {R : Nat → Row} {G : List Grp} {e : Grp} {v w last : Int32}
theorem lcell (hS3 : nS ≤ 3) (h : LPk M a1 a2 nS A i j k R) (hs : s < nS) (hc : c < 4) : f_L_seatCell fu a1 (nI s) (nI c) (nI i) (nI j) (nI k) M = some (cel (R s) c) := by
  obtain ⟨h1, h2, h3⟩ := h s hs
  have hl := gl_lt h3
  have h10 := h1.2.1
  have hv : (if nI s = 0 then nI i else if nI s = 1 then nI j else nI k) = nI (ix3 i j k s) := by
    have h4 : s = 0 ∨ s = 1 ∨ s = 2 := by omega
    rcases h4 with rfl | rfl | rfl
    · rw [if_pos (show nI 0 = 0 from rfl)]; rfl
    · rw [if_neg (by decide), if_pos (show nI 1 = 1 from rfl)]; rfl
    · rw [if_neg (by decide), if_neg (by decide)]; rfl
  have e1 : (10 : Int32) * nI s + nI (ix3 i j k s) = nI (10 * s + ix3 i j k s) := by rw [show (10 : Int32) = nI 10 from rfl, pk_mul, nI_add]
  simp only [f_L_seatCell, hv, nm_d, e1]
  rw [inb_nI (by omega) (by omega), grd_true, nI_clamp (by omega), h1.2.2 _ _ h3, at_pk (h2.at h3).1 (h2.at h3).2 hc]
theorem LPk.okk (h : LPk M a1 a2 nS A i j k R) (hs : s < nS) (hc : c < 4) : okc (cel (R s) c) := ((h s hs).2.1.at (h s hs).2.2).2 c hc
theorem lnum0 (hv : okc v) : (f_L_isNumber v = 0) = (f_X10_isNumber v = nI 0) := by
  show _ = (f_X10_isNumber v = 0)
  rw [num0]
  unfold f_L_isNumber
  rcases hv with rfl | rfl | ⟨h1, h2⟩
  · simp
  · simp
  · have : ¬ v < -999 := by grind
    have h3 : ¬ 999 < v := by grind
    have h4 : ¬ (v = 5000 ∨ v = 5001) := by grind
    simp [this, h3, h4]
theorem llinkedL (hD : DL M m nS nL nC nO) (hG : DG m nS nL nC nO) (h : LPk M a1 a2 nS A i j k R) : ∀ d l n, l + d = nL → d < n → al (lk1 m R) l = true → f_L_linked_L3 fu a1 (nI i) (nI j) (nI k) M n (nI l) = some (bI (al (lk1 m R) nL)) := by
  have hL3 := hG.2.1.2
  have hS3 := hG.1.2
  intro d
  induction d with
  | zero =>
    intro l n h1 h2 h3
    obtain ⟨n, rfl⟩ := fu1 h2
    obtain rfl : l = nL := by omega
    simp (disch := omega) only [f_L_linked_L3, hD.1.2.1, nI_leI, Nat.le_refl, if_true, h3]
    rfl
  | succ d ih =>
    intro l n h1 h2 h3
    obtain ⟨n, rfl⟩ := fu1 h2
    have h6 : ¬ nL ≤ l := by omega
    obtain ⟨y1, y2, y3, y4⟩ := hD.2.2.1 l (by omega)
    obtain ⟨a, b, c, d', q1, q2, q3, q4, q5, q6, q7, q8, q9⟩ := lk_get hG (show l < nL by omega)
    have e9 : (9 : Int32) + 4 * nI l = nI (9 + 4 * l) := by rw [show (4 : Int32) = nI 4 from rfl, show (9 : Int32) = nI 9 from rfl, pk_mul, nI_add]
    have e10 : (10 : Int32) + 4 * nI l = nI (10 + 4 * l) := by rw [show (4 : Int32) = nI 4 from rfl, show (10 : Int32) = nI 10 from rfl, pk_mul, nI_add]
    have e11 : (11 : Int32) + 4 * nI l = nI (11 + 4 * l) := by rw [show (4 : Int32) = nI 4 from rfl, show (11 : Int32) = nI 11 from rfl, pk_mul, nI_add]
    have e12 : (12 : Int32) + 4 * nI l = nI (12 + 4 * l) := by rw [show (4 : Int32) = nI 4 from rfl, show (12 : Int32) = nI 12 from rfl, pk_mul, nI_add]
    have c1 := lcell (fu := fu) hS3 h (show a < nS by omega) q7
    have c2 := lcell (fu := fu) hS3 h q6 q8
    have hn0 := lnum0 (h.okk (show a < nS by omega) q7)
    have al1 : al (lk1 m R) (l + 1) = lk1 m R l := by simp only [al, h3, Bool.true_and]
    simp (disch := omega) only [f_L_linked_L3, hD.1.2.1, nI_leI, h6, if_false, e9, e10, e11, e12, inb_nI, grd_true, nI_clamp, nm_d, nI_1, y1, y2, y3, y4, q1, q2, q3, q4, c1, c2, bd_some, hn0]
    by_cases z1 : f_X10_isNumber (cel (R a) c) = nI 0
    · rw [if_pos z1, al_f (k := l) (by rw [q9]; simp [z1]) (by omega)]
      rfl
    · rw [if_neg z1]
      by_cases z2 : cel (R a) c = cel (R b) d'
      · rw [if_pos z2]
        exact ih (l + 1) n (by omega) (by omega) (by rw [al1, q9, decide_eq_false z1, decide_eq_true z2]; rfl)
      · rw [if_neg z2, al_f (k := l) (by rw [q9]; simp [z2]) (by omega)]
        rfl
theorem llinked (hfu : 5000 ≤ fu) (hD : DL M m nS nL nC nO) (hG : DG m nS nL nC nO) (h : LPk M a1 a2 nS A i j k R) : f_L_linked fu a1 (nI i) (nI j) (nI k) M = some (bI (al (lk1 m R) nL)) := llinkedL hD hG h nL 0 fu (by omega) (by have := hG.2.1.2; omega) rfl
theorem lout {o : Nat} (hD : DL M m nS nL nC nO) (hG : DG m nS nL nC nO) (h : LPk M a1 a2 nS A i j k R) (ho : o < nO) : f_L_outOf fu a1 (nI o) (nI i) (nI j) (nI k) M = some (ov m R o) := by
  have hO3 := hG.2.2.2.1.2
  obtain ⟨a, c, q1, q2, q3, q4, q5⟩ := ov_get hG ho
  obtain ⟨y1, y2⟩ := hD.2.2.2.2 o ho
  have e1 : (37 : Int32) + 2 * nI o = nI (37 + 2 * o) := by rw [show (2 : Int32) = nI 2 from rfl, show (37 : Int32) = nI 37 from rfl, pk_mul, nI_add]
  have e2 : (38 : Int32) + 2 * nI o = nI (38 + 2 * o) := by rw [show (2 : Int32) = nI 2 from rfl, show (38 : Int32) = nI 38 from rfl, pk_mul, nI_add]
  have c1 := lcell (fu := fu) hG.1.2 h q3 q4
  simp (disch := omega) only [f_L_outOf, e1, e2, inb_nI, grd_true, nI_clamp, y1, y2, q1, q2, c1, bd_some, q5]
theorem lahead (hv : okc v) (hw : okc w) : (f_L_isAhead v w = 0) = ¬ (f_X0_rank v < f_X0_rank w) := by
  simp only [f_L_isAhead, f_X0_rank, okc] at *
  grind
/-- the place of a group -/
theorem lfindL {k60 : Int32 → Option (Int32 × Mem)} {made : Int32} (hC : CGx made (M a3) G) (hl : G.length ≤ 12) (hok : ∀ e ∈ G, okc e.1) (hv : okc v) : ∀ d x n, x + d = G.length → d < n → (∀ i e, i < x → G[i]? = some e → f_X0_rank e.1 < f_X0_rank v) → ∃ q, q ≤ G.length ∧ f_L_group_L33 fu a3 made M v k60 n (nI x) = k60 (nI q) ∧ (∀ i e, i < q → G[i]? = some e → f_X0_rank e.1 < f_X0_rank v) ∧ (∀ e, G[q]? = some e → f_X0_rank v ≤ f_X0_rank e.1) := by
  intro d
  induction d with
  | zero =>
    intro x n h1 h2 h3
    obtain ⟨n, rfl⟩ := fu1 h2
    obtain rfl : x = G.length := by omega
    refine ⟨G.length, Nat.le_refl _, ?_, h3, fun e he => by have := gl_lt he; omega⟩
    simp (disch := omega) only [f_L_group_L33, hC.1, nI_leI, Nat.le_refl, if_true]
  | succ d ih =>
    intro x n h1 h2 h3
    obtain ⟨n, rfl⟩ := fu1 h2
    have h6 : ¬ G.length ≤ x := by omega
    obtain ⟨e, he⟩ := gl_ex (L := G) (i := x) (by omega)
    have e3 : (3 : Int32) * nI x = nI (3 * x) := pk_mul 3 x
    have ha := lahead (v := e.1) (w := v) (hok e (List.mem_of_getElem? he)) hv
    have eL : f_L_group_L33 fu a3 made M v k60 (n + 1) (nI x) = if f_L_isAhead e.1 v = 0 then k60 (nI x) else f_L_group_L33 fu a3 made M v k60 n (nI (x + 1)) := by
      simp (disch := omega) only [f_L_group_L33, hC.1, nI_leI, h6, if_false, e3, inb_nI, grd_true, nI_clamp, (hC.2 x e he).1, nm_d, nI_1]
    rw [eL]
    by_cases z : f_X0_rank e.1 < f_X0_rank v
    · rw [if_neg (fun h => (iff_of_eq ha).mp h z)]
      exact ih (x + 1) n (by omega) (by omega) (fun i e' hi he' => by
        by_cases hix : i = x
        · subst hix; rw [he] at he'; cases he'; exact z
        · exact h3 i e' (by omega) he')
    · rw [if_pos ((iff_of_eq ha).mpr z)]
      exact ⟨x, by omega, rfl, h3, fun e' he' => by rw [he] at he'; cases he'; exact Int32.not_lt.mp z⟩
/-- groups go three places up -/
theorem lshiftL {k117 : Mem → Option (Int32 × Mem)} {hi : Nat} (hhi : hi + 2 < 60) (hq : 3 * q ≤ hi) : ∀ d t n (N : Mem), t = 3 * q + 2 + d → t ≤ hi + 2 → d < n → (∀ a, a ≠ a3 → N a = M a) → (∀ x, N a3 x = if t < x ∧ x ≤ hi + 2 then M a3 (x - 3) else M a3 x) →
    ∃ N', f_L_group_L90 fu a3 (nI q) k117 n (nI t) N = k117 N' ∧ (∀ a, a ≠ a3 → N' a = M a) ∧ ∀ x, N' a3 x = if 3 * q + 2 < x ∧ x ≤ hi + 2 then M a3 (x - 3) else M a3 x := by
  have e1 : (3 : Int32) * nI q + 2 = nI (3 * q + 2) := by rw [show (3 : Int32) = nI 3 from rfl, show (2 : Int32) = nI 2 from rfl, pk_mul, nI_add]
  intro d
  induction d with
  | zero =>
    intro t n N h1 h2 h3 h4 h5
    obtain ⟨n, rfl⟩ := fu1 h3
    have h6 : t ≤ 3 * q + 2 := by omega
    refine ⟨N, ?_, h4, fun x => by rw [h5, show t = 3 * q + 2 by omega]⟩
    simp (disch := omega) only [f_L_group_L90, e1, nI_leI, h6, if_true]
  | succ d ih =>
    intro t n N h1 h2 h3 h4 h5
    obtain ⟨n, rfl⟩ := fu1 h3
    have h6 : ¬ t ≤ 3 * q + 2 := by omega
    have e2 : nI t - 3 = nI (t - 3) := by rw [show (3 : Int32) = nI 3 from rfl, pk_sub (by omega)]
    have e4 : nI t + -1 = nI (t - 1) := by
      obtain ⟨t', rfl⟩ : ∃ t', t = t' + 1 := ⟨t - 1, by omega⟩
      rw [pk_m1]; rfl
    have e3 : N a3 (t - 3) = M a3 (t - 3) := by rw [h5, if_neg (by omega)]
    simp (disch := omega) only [f_L_group_L90, e1, nI_leI, h6, if_false, e2, inb_nI, grd_true, nI_clamp, nm_d, e3, e4]
    refine ih (t - 1) n _ (by omega) (by omega) (by omega) (fun a ha => by rw [up_n ha, h4 a ha]) (fun x => ?_)
    by_cases hx : x = t
    · subst hx
      rw [up_s, if_pos (by omega)]
    · rw [up_m hx, h5]
      by_cases h7 : t < x ∧ x ≤ hi + 2
      · rw [if_pos h7, if_pos (by omega)]
      · rw [if_neg h7, if_neg (by omega)]
/-- a match is added to its group -/
theorem lgroup_ok (hfu : 5000 ≤ fu) (hD : DL M m nS nL nC nO) (hG : DG m nS nL nC nO) (hP : LPk M a1 a2 nS A i j k R) (hO : 0 < nO) (hC : CGx (nI G.length) (M a3) G) (hS : GSO G) (hl : G.length ≤ 12) (hok : ∀ e ∈ G, okc e.1) : ∃ N G', f_L_group fu a1 a3 (nI i) (nI j) (nI k) (nI G.length) M = some (nI G'.length, N) ∧ CGx (nI G'.length) (N a3) G' ∧ GSO G' ∧ ((∃ q e, G[q]? = some e ∧ e.1 = ov m R 0 ∧ G' = G.set q (gadd e (ov m R (nO - 1)))) ∨ (∃ q, (∀ e ∈ G, e.1 ≠ ov m R 0) ∧ q ≤ G.length ∧ G' = G.insertIdx q (gadd (ov m R 0, 0, 0) (ov m R (nO - 1))))) ∧ (∀ a, a ≠ a3 → N a = M a) := by
  have hO3 := hG.2.2.2.1.2
  have hvk : ∀ o, o < nO → okc (ov m R o) := fun o ho => by
    obtain ⟨a, ca, q1, q2, q3, q4, q5⟩ := ov_get hG ho
    rw [q5]; exact hP.okk q3 q4
  have hv := hvk 0 hO
  have hlk := hvk (nO - 1) (by omega)
  have es : nI nO - 1 = nI (nO - 1) := pk_sub (b := 1) (by omega)
  have o0 := lout (fu := fu) (o := 0) hD hG hP hO
  have o1 := lout (fu := fu) (o := nO - 1) hD hG hP (by omega)
  rw [show nI 0 = (0 : Int32) from rfl] at o0
  generalize hvv : ov m R 0 = v at *
  generalize hll : ov m R (nO - 1) = last at *
  have hK : ∀ (q : Nat) (x10 : Int32) (P : Mem), q < 13 → lg146 a3 last (nI q) x10 P = some (x10, up (up P a3 (3 * q + 1) (P a3 (3 * q + 1) + 1)) a3 (3 * q + 2) (P a3 (3 * q + 2) + (if f_X10_isNumber last = nI 0 then 0 else last))) := fun q x10 P hq => by
    have i1 : (3 : Int32) * nI q + 1 = nI (3 * q + 1) := by rw [show (3 : Int32) = nI 3 from rfl, pk_mul, nI_1]
    have i2 : (3 : Int32) * nI q + 2 = nI (3 * q + 2) := by rw [show (3 : Int32) = nI 3 from rfl, show (2 : Int32) = nI 2 from rfl, pk_mul, nI_add]
    have hif : (if f_L_isNumber last = 0 then (0 : Int32) else last) = if f_X10_isNumber last = nI 0 then 0 else last := by
      by_cases z : f_X10_isNumber last = nI 0
      · rw [if_pos z, if_pos ((iff_of_eq (lnum0 hlk)).mpr z)]
      · rw [if_neg z, if_neg (fun h => z ((iff_of_eq (lnum0 hlk)).mp h))]
    show grd _ _ = _
    simp only [nm_d, i1, i2, hif]
    rw [inb_nI (by omega) (by omega), grd_true, inb_nI (by omega) (by omega), grd_true, nI_clamp (by omega), nI_clamp (by omega), up_m (by omega)]
  obtain ⟨q, g1, g2, g3, g4⟩ := lfindL (fu := fu) (v := v) (k60 := fun x9_6 => if x9_6 = nI G.length then lgPut fu a3 v last (nI G.length) M x9_6 else grd (inb (3 * x9_6) 60) (if (M a3 (3 * x9_6).toNatClampNeg) = v then lg146 a3 last x9_6 (nI G.length) M else lgPut fu a3 v last (nI G.length) M x9_6)) hC hl hok hv G.length 0 fu (by omega) (by omega) (fun i e hi => by omega)
  have e0 : f_L_group fu a1 a3 (nI i) (nI j) (nI k) (nI G.length) M = f_L_group_L33 fu a3 (nI G.length) M v (fun x9_6 => if x9_6 = nI G.length then lgPut fu a3 v last (nI G.length) M x9_6 else grd (inb (3 * x9_6) 60) (if (M a3 (3 * x9_6).toNatClampNeg) = v then lg146 a3 last x9_6 (nI G.length) M else lgPut fu a3 v last (nI G.length) M x9_6)) fu (nI 0) := by
    unfold f_L_group
    rw [o0, bd_some, hD.1.2.2.2.1, es, o1, bd_some]
    rfl
  rw [e0, g2]
  clear e0 g2
  have i3 : (3 : Int32) * nI q = nI (3 * q) := pk_mul 3 q
  have i31 : nI (3 * q) + 1 = nI (3 * q + 1) := nI_1 ..
  have i32 : nI (3 * q) + 2 = nI (3 * q + 2) := nI_add _ 2
  have iG : (3 : Int32) * nI G.length + 2 = nI (3 * G.length + 2) := by rw [show (3 : Int32) = nI 3 from rfl, show (2 : Int32) = nI 2 from rfl, pk_mul, nI_add]
  -- it is put there
  have put : (∀ e ∈ G, e.1 ≠ v) → ∃ N, lgPut fu a3 v last (nI G.length) M (nI q) = some (nI (G.insertIdx q (gadd (v, 0, 0) last)).length, N) ∧ CGx (nI (G.insertIdx q (gadd (v, 0, 0) last)).length) (N a3) (G.insertIdx q (gadd (v, 0, 0) last)) ∧ GSO (G.insertIdx q (gadd (v, 0, 0) last)) ∧ (∀ a, a ≠ a3 → N a = M a) := by
    intro hne
    obtain ⟨N1, s1, s2, s3⟩ := lshiftL (fu := fu) (a3 := a3) (M := M) (q := q) (hi := 3 * G.length) (k117 := lg20 a3 v last (nI G.length) (nI q)) (by omega) (by omega) (3 * G.length - 3 * q) (3 * G.length + 2) fu M (by omega) (Nat.le_refl _) (by omega) (fun _ _ => rfl) (fun x => by rw [if_neg (by omega)])
    have hil : (G.insertIdx q (gadd (v, 0, 0) last)).length = G.length + 1 := by rw [List.length_insertIdx, if_pos g1]
    let P := up (up (up N1 a3 (3 * q) v) a3 (3 * q + 1) 0) a3 (3 * q + 2) 0
    refine ⟨up (up P a3 (3 * q + 1) (P a3 (3 * q + 1) + 1)) a3 (3 * q + 2) (P a3 (3 * q + 2) + (if f_X10_isNumber last = nI 0 then 0 else last)), ?_, ⟨rfl, fun x e he => ?_⟩, fun i j e e' he he' hij => ?_, fun a z1 => ?_⟩
    · unfold lgPut
      rw [nm_d, iG, s1]
      unfold lg20
      simp only [nm_d, i3, i31, i32, nI_1]
      rw [inb_nI (show 3 * q < 60 by omega) (by omega), grd_true, inb_nI (show 3 * q + 1 < 60 by omega) (by omega), grd_true, inb_nI (show 3 * q + 2 < 60 by omega) (by omega), grd_true, nI_clamp (show 3 * q < 2 ^ 31 by omega), nI_clamp (show 3 * q + 1 < 2 ^ 31 by omega), nI_clamp (show 3 * q + 2 < 2 ^ 31 by omega), hK q _ _ (by omega), hil]
    · have P1 : P a3 (3 * q + 1) = 0 := by show up (up (up N1 _ _ _) _ _ _) _ _ _ a3 (3 * q + 1) = _; rw [up_m (by omega), up_s]
      have P2 : P a3 (3 * q + 2) = 0 := by show up (up (up N1 _ _ _) _ _ _) _ _ _ a3 (3 * q + 2) = _; rw [up_s]
      have P0 : P a3 (3 * q) = v := by show up (up (up N1 _ _ _) _ _ _) _ _ _ a3 (3 * q) = _; rw [up_m (by omega), up_m (by omega), up_s]
      have PP : ∀ y, y ≠ 3 * q → y ≠ 3 * q + 1 → y ≠ 3 * q + 2 → P a3 y = N1 a3 y := fun y z0 z1 z2 => by show up (up (up N1 _ _ _) _ _ _) _ _ _ a3 y = _; rw [up_m z2, up_m z1, up_m z0]
      rw [List.getElem?_insertIdx] at he
      by_cases h1 : x < q
      · rw [if_pos h1] at he
        obtain ⟨c1, c2, c3⟩ := hC.2 x e he
        refine ⟨?_, ?_, ?_⟩
        · rw [up_m (by omega), up_m (by omega), PP _ (by omega) (by omega) (by omega), s3, if_neg (by omega)]; exact c1
        · rw [up_m (by omega), up_m (by omega), PP _ (by omega) (by omega) (by omega), s3, if_neg (by omega)]; exact c2
        · rw [up_m (by omega), up_m (by omega), PP _ (by omega) (by omega) (by omega), s3, if_neg (by omega)]; exact c3
      · rw [if_neg h1] at he
        by_cases h2 : x = q
        · rw [if_pos h2, if_pos (by omega)] at he
          cases he
          subst h2
          refine ⟨?_, ?_, ?_⟩
          · rw [up_m (by omega), up_m (by omega), P0]; rfl
          · rw [up_m (by omega), up_s, P1]; rfl
          · rw [up_s, P2]; rfl
        · rw [if_neg h2] at he
          obtain ⟨c1, c2, c3⟩ := hC.2 (x - 1) e he
          have hx := gl_lt he
          refine ⟨?_, ?_, ?_⟩
          · rw [up_m (by omega), up_m (by omega), PP _ (by omega) (by omega) (by omega), s3, if_pos (by omega), show 3 * x - 3 = 3 * (x - 1) by omega]; exact c1
          · rw [up_m (by omega), up_m (by omega), PP _ (by omega) (by omega) (by omega), s3, if_pos (by omega), show 3 * x + 1 - 3 = 3 * (x - 1) + 1 by omega]; exact c2
          · rw [up_m (by omega), up_m (by omega), PP _ (by omega) (by omega) (by omega), s3, if_pos (by omega), show 3 * x + 2 - 3 = 3 * (x - 1) + 2 by omega]; exact c3
    · have lo : ∀ i e, i < q → G[i]? = some e → f_X0_rank e.1 < f_X0_rank v := g3
      have hi : ∀ i e, q ≤ i → G[i]? = some e → f_X0_rank v < f_X0_rank e.1 := by
        intro i0 e0 hi0 he0
        obtain ⟨e1, he1⟩ := gl_ex (L := G) (i := q) (by have := gl_lt he0; omega)
        have h1 := g4 e1 he1
        have h2 : f_X0_rank v < f_X0_rank e1.1 := by
          have hn := hne e1 (List.mem_of_getElem? he1)
          have : f_X0_rank v ≠ f_X0_rank e1.1 := fun h => hn (rk_inj hv (hok e1 (List.mem_of_getElem? he1)) h).symm
          grind
        by_cases hiq : i0 = q
        · rw [hiq, he1] at he0; cases he0; exact h2
        · have := hS q i0 e1 e0 he1 he0 (by omega)
          grind
      rw [List.getElem?_insertIdx] at he he'
      by_cases c1 : i < q
      · rw [if_pos c1] at he
        by_cases c2 : j < q
        · rw [if_pos c2] at he'; exact hS i j e e' he he' hij
        · rw [if_neg c2] at he'
          by_cases c3 : j = q
          · rw [if_pos c3, if_pos (by omega)] at he'; cases he'; exact lo i e c1 he
          · rw [if_neg c3] at he'; exact hS i (j - 1) e e' he he' (by omega)
      · rw [if_neg c1] at he
        by_cases c2 : i = q
        · rw [if_pos c2, if_pos (by omega)] at he; cases he
          rw [if_neg (by omega), if_neg (by omega)] at he'
          exact hi (j - 1) e' (by omega) he'
        · rw [if_neg c2] at he
          rw [if_neg (by omega), if_neg (by omega)] at he'
          exact hS (i - 1) (j - 1) e e' he he' (by omega)
    · rw [up_n z1, up_n z1]
      show up (up (up N1 _ _ _) _ _ _) _ _ _ a = _
      rw [up_n z1, up_n z1, up_n z1, s2 a z1]
  have hqe : (nI q = nI G.length) = (q = G.length) := propext (nI_eq (by omega) (by omega))
  by_cases hq : q = G.length
  · have hne : ∀ e ∈ G, e.1 ≠ v := fun e he => by
      obtain ⟨i, hi⟩ := List.mem_iff_getElem?.mp he
      have := g3 i e (by have := gl_lt hi; omega) hi
      intro h; rw [h] at this; grind
    obtain ⟨N, p1, p2, p3, p4⟩ := put hne
    refine ⟨N, _, ?_, p2, p3, Or.inr ⟨q, hne, g1, rfl⟩, p4⟩
    rw [if_pos ((iff_of_eq hqe).mpr hq)]
    exact p1
  · obtain ⟨e, he⟩ := gl_ex (L := G) (i := q) (by omega)
    have c1 := (hC.2 q e he).1
    by_cases hev : e.1 = v
    · have hset : (G.set q (gadd e last)).length = G.length := List.length_set
      have hkq := hK q (nI G.length) M (by omega)
      refine ⟨up (up M a3 (3 * q + 1) (M a3 (3 * q + 1) + 1)) a3 (3 * q + 2) (M a3 (3 * q + 2) + (if f_X10_isNumber last = nI 0 then 0 else last)), G.set q (gadd e last), ?_, ⟨rfl, fun x e' he' => ?_⟩, hS.set he rfl, Or.inl ⟨q, e, he, hev, rfl⟩, ?_⟩
      · rw [if_neg (fun h => hq ((iff_of_eq hqe).mp h)), i3, inb_nI (show 3 * q < 60 by omega) (by omega), grd_true, nI_clamp (show 3 * q < 2 ^ 31 by omega), c1, if_pos hev, hset]
        exact hkq
      · rw [List.getElem?_set] at he'
        by_cases hx : q = x
        · subst hx
          rw [if_pos rfl, if_pos (by omega)] at he'
          cases he'
          obtain ⟨d1, d2, d3⟩ := hC.2 q e he
          refine ⟨?_, ?_, ?_⟩
          · rw [up_m (by omega), up_m (by omega)]; exact d1
          · rw [up_m (by omega), up_s, d2]; rfl
          · rw [up_s, d3]; rfl
        · rw [if_neg hx] at he'
          obtain ⟨d1, d2, d3⟩ := hC.2 x e' he'
          refine ⟨?_, ?_, ?_⟩
          · rw [up_m (by omega), up_m (by omega)]; exact d1
          · rw [up_m (by omega), up_m (by omega)]; exact d2
          · rw [up_m (by omega), up_m (by omega)]; exact d3
      · intro a ha
        rw [up_n ha, up_n ha]
    · have hne : ∀ e' ∈ G, e'.1 ≠ v := fun e' he' h => by
        obtain ⟨i, hi⟩ := List.mem_iff_getElem?.mp he'
        rcases Nat.lt_trichotomy i q with h1 | h1 | h1
        · have := g3 i e' h1 hi; rw [h] at this; grind
        · subst h1; rw [he] at hi; cases hi; exact hev h
        · have h2 := hS q i e e' he hi h1
          have h3 := g4 e he
          rw [h] at h2
          grind
      obtain ⟨N, p1, p2, p3, p4⟩ := put hne
      refine ⟨N, _, ?_, p2, p3, Or.inr ⟨q, hne, g1, rfl⟩, p4⟩
      rw [if_neg (fun h => hq ((iff_of_eq hqe).mp h)), i3, inb_nI (show 3 * q < 60 by omega) (by omega), grd_true, nI_clamp (show 3 * q < 2 ^ 31 by omega), c1, if_neg hev]
      exact p1
end Mat1
