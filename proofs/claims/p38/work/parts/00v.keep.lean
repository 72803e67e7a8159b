/-! ===== what a scan has told is kept: both ===== -/
def cnd (m : Mem) (i : Nat) : Nat → List Con
  | 0 => []
  | w + 1 => cnd m i w ++ (if snt m i w = true then [((m 25 w).toNatClampNeg, m 26 w, m 27 w)] else [])
def rot (L : List Ent) : List Ent := if L.length = 6 then L.drop 1 else L
section Keep
variable {fu nS nL nC nO i s t u : Nat} {M m N n : Mem} {L : List Ent} {A : List Row} {r : Row}
theorem rot_len (h : L.length ≤ 6) : (rot L).length < 6 := by
  simp only [rot]
  split
  · simp; omega
  · omega
theorem cnd_len {w : Nat} : (cnd m i w).length ≤ w := by
  induction w with
  | zero => exact Nat.le_refl 0
  | succ w ih =>
    simp only [cnd, List.length_append]
    split <;> simp <;> omega
theorem DS.cc (h : DS n m) {w : Nat} : cnd n i w = cnd m i w := by
  induction w with
  | zero => rfl
  | succ w ih => simp only [cnd, ih, h.cs, h.1 25 (by omega) (by omega), h.1 26 (by omega) (by omega), h.1 27 (by omega) (by omega)]
theorem CV_snoc {f g h : Nat → Int32} {C : List Con} {c : Con} (hC : CV f g h C) : CV (upd f C.length (nI c.1)) (upd g C.length c.2.1) (upd h C.length c.2.2) (C ++ [c]) := by
  intro j c' hj
  by_cases h1 : j = C.length
  · subst h1
    rw [List.getElem?_concat_length] at hj
    cases hj
    simp [upd]
  · have hl := gl_lt hj
    simp at hl
    rw [List.getElem?_append_left (by omega)] at hj
    obtain ⟨e1, e2, e3⟩ := hC j c' hj
    simp [upd, h1, e1, e2, e3]
theorem CV.cg {f g h f' g' h' : Nat → Int32} {C : List Con} (hC : CV f g h C) (h1 : ∀ j, j < C.length → f' j = f j ∧ g' j = g j ∧ h' j = h j) : CV f' g' h' C := by
  intro j c hj
  obtain ⟨e1, e2, e3⟩ := hC j c hj
  obtain ⟨d1, d2, d3⟩ := h1 j (gl_lt hj)
  exact ⟨by rw [d1, e1], by rw [d2, e2], by rw [d3, e3]⟩
theorem nextL {k : Mem → Option (Option Nat × Mem)} {x e n : Nat} (hx : 0 < x) (hx6 : x < 6) (he : kid e) (hM : M 3 x = nI e) : f_X3_nextEntry_L40 fu k (n + 1) (nI x) M = f_X3_nextEntry_L40 fu k n (nI (x + 1)) (up M 3 (x - 1) (nI e)) := by
  have hk := kid_b he
  have h6 : ¬ 6 ≤ x := by omega
  simp (disch := omega) only [f_X3_nextEntry_L40, lit, nI_add, pk_mul, pk_sub, nI_clamp, inb_nI, nI_leI, nI_ltI, nI_eq, add_m1, ↓reduceIte, grd_true, nm_d, jn_d, bd_some, bm_some, om_some, om_none, h6, hM, kid_kb he]
theorem nextLe {k : Mem → Option (Option Nat × Mem)} {n : Nat} : f_X3_nextEntry_L40 fu k (n + 1) (nI 6) M = k M := by
  simp (disch := omega) only [f_X3_nextEntry_L40, lit, nI_add, pk_mul, pk_sub, nI_clamp, inb_nI, nI_leI, nI_ltI, nI_eq, add_m1, ↓reduceIte, grd_true, nm_d, jn_d, bd_some, bm_some, om_some, om_none, Nat.le_refl]
theorem next6 {id : Nat → Nat} {f : Nat} (a1 : ∀ j, j < 6 → kid (id j)) (a3 : ∀ j, j < 6 → M 3 j = nI (id j)) (a4 : M 2 4 = nI 6) : f_X3_nextEntry (f + 6) M = some (some (id 0), up (up (up (up (up (up M 3 0 (nI (id 1))) 3 1 (nI (id 2))) 3 2 (nI (id 3))) 3 3 (nI (id 4))) 3 4 (nI (id 5))) 3 5 (nI (id 0))) := by
  have hk := kid_b (a1 0 (by omega))
  simp (disch := omega) only [f_X3_nextEntry, a4, lit, nI_add, pk_mul, pk_sub, nI_clamp, inb_nI, nI_leI, nI_ltI, nI_eq, add_m1, ↓reduceIte, grd_true, nm_d, jn_d, bd_some, bm_some, om_some, om_none, a3, kid_kb (a1 0 (by omega)), Nat.le_refl]
  rw [nextL (x := 1) (e := id 1) (n := f + 5) (by omega) (by omega) (a1 1 (by omega)) (a3 1 (by omega))]
  rw [nextL (x := 1 + 1) (e := id 2) (n := f + 4) (by omega) (by omega) (a1 2 (by omega)) (by rw [up_m (by omega)]; exact a3 2 (by omega))]
  rw [nextL (x := 1 + 1 + 1) (e := id 3) (n := f + 3) (by omega) (by omega) (a1 3 (by omega)) (by rw [up_m (by omega), up_m (by omega)]; exact a3 3 (by omega))]
  rw [nextL (x := 1 + 1 + 1 + 1) (e := id 4) (n := f + 2) (by omega) (by omega) (a1 4 (by omega)) (by rw [up_m (by omega), up_m (by omega), up_m (by omega)]; exact a3 4 (by omega))]
  rw [nextL (x := 1 + 1 + 1 + 1 + 1) (e := id 5) (n := f + 1) (by omega) (by omega) (a1 5 (by omega)) (by rw [up_m (by omega), up_m (by omega), up_m (by omega), up_m (by omega)]; exact a3 5 (by omega))]
  rw [nextLe]
/-- the class: the next entry -/
theorem nextEntry_ok (hfu : 5000 ≤ fu) (h : EC M L) : Ok (f_X3_nextEntry fu M) (fun p => ∃ e id, p.1 = some e ∧ kid e ∧ IDS p.2 id ∧ p.2 2 4 = nI ((rot L).length + 1) ∧ id (rot L).length = e ∧ (∀ j E, (rot L)[j]? = some E → EC1 M (id j) E ∧ id j ≠ e) ∧ ∀ a, a ≠ 2 → a ≠ 3 → p.2 a = M a) := by
  obtain ⟨id, ⟨a1, a2, a3⟩, a4, a5, a6⟩ := h
  obtain ⟨f, rfl⟩ : ∃ f, fu = f + 6 := ⟨fu - 6, by omega⟩
  clear hfu
  have kb0 := fun j hj => kid_kb (a1 j hj)
  have kb1 := fun j hj => kid_b (a1 j hj)
  have b0 := kb1 0 (by omega)
  have b1 := kb1 1 (by omega)
  have b2 := kb1 2 (by omega)
  have b3 := kb1 3 (by omega)
  have b4 := kb1 4 (by omega)
  have b5 := kb1 5 (by omega)
  by_cases h6 : L.length = 6
  · have hr : rot L = L.drop 1 := by simp [rot, h6]
    have hrl : (rot L).length = 5 := by rw [hr]; simp; omega
    refine Ok.ex (a := (some (id 0), up (up (up (up (up (up M 3 0 (nI (id 1))) 3 1 (nI (id 2))) 3 2 (nI (id 3))) 3 3 (nI (id 4))) 3 4 (nI (id 5))) 3 5 (nI (id 0)))) ?_ ⟨id 0, fun j => if j < 5 then id (j + 1) else id 0, rfl, a1 0 (by omega), ⟨fun j hj => ?_, fun x y hx hy => ?_, fun j hj => ?_⟩, ?_, ?_, fun j E hj => ?_, fun a h1 h2 => ?_⟩
    · exact next6 a1 a3 (by rw [a4, h6])
    · dsimp only
      split
      · exact a1 _ (by omega)
      · exact a1 _ (by omega)
    · dsimp only
      intro e
      by_cases hx5 : x < 5
      · by_cases hy5 : y < 5
        · rw [if_pos hx5, if_pos hy5] at e; have := a2 _ _ (by omega) (by omega) e; omega
        · rw [if_pos hx5, if_neg hy5] at e; have := a2 _ _ (by omega) (by omega) e; omega
      · by_cases hy5 : y < 5
        · rw [if_neg hx5, if_pos hy5] at e; have := a2 _ _ (by omega) (by omega) e; omega
        · omega
    · have hj' : j = 0 ∨ j = 1 ∨ j = 2 ∨ j = 3 ∨ j = 4 ∨ j = 5 := by omega
      rcases hj' with rfl | rfl | rfl | rfl | rfl | rfl <;> simp (disch := omega) only [up_m, up_s, show (0 : Nat) < 5 by omega, show (1 : Nat) < 5 by omega, show (2 : Nat) < 5 by omega, show (3 : Nat) < 5 by omega, show (4 : Nat) < 5 by omega, show ¬ (5 : Nat) < 5 by omega, ↓reduceIte, Nat.reduceAdd]
    · simp (disch := omega) only [up_n, a4, h6, hrl]
    · simp [hrl]
    · have hl := gl_lt hj
      rw [hrl] at hl
      rw [hr, List.getElem?_drop] at hj
      dsimp only
      rw [if_pos hl]
      refine ⟨by rw [Nat.add_comm]; exact a6 _ E hj, fun e => ?_⟩
      have := a2 _ _ (by omega) (by omega) e
      omega
    · simp (disch := omega) only [up_n]
  · have hr : rot L = L := by simp [rot, h6]
    rw [hr]
    refine Ok.ex (a := (some (id L.length), up M 2 4 (nI (L.length + 1)))) ?_ ⟨id L.length, id, rfl, a1 _ (by omega), ⟨a1, a2, fun j hj => by dsimp only; rw [up_n (by omega)]; exact a3 j hj⟩, by dsimp only; exact up_s, rfl, fun j E hj => ⟨a6 j E hj, fun e => ?_⟩, fun a h1 h2 => up_n h1⟩
    · have h7 : ¬ 6 ≤ L.length := by omega
      have hk := kb0 L.length (by omega)
      have hk1 := kb1 L.length (by omega)
      have e3 := a3 L.length (by omega)
      generalize id L.length = e at *
      simp (disch := omega) only [f_X3_nextEntry, a4, lit, nI_add, pk_mul, pk_sub, nI_clamp, inb_nI, nI_leI, nI_ltI, nI_eq, add_m1, ↓reduceIte, grd_true, nm_d, jn_d, bd_some, bm_some, om_some, om_none, h7, up_s, up_n, Nat.add_sub_cancel, e3, hk]
    · have := gl_lt hj
      have := a2 _ _ (by omega) (by omega) e
      omega
theorem keepCondL {e : Nat} (he : kid e) (hG : DG m nS nL nC nO) (hi : i < 3) : ∀ d w n (M : Mem), w + d = nC → d < n → DR M m → M e 4 = nI (cnd m i w).length → CV (M (e + 4)) (M (e + 5)) (M (e + 6)) (cnd m i w) →
    ∃ N, f_X5_keepConditions_L7 fu e (nI i) n (nI w) M = some N ∧ N e 4 = nI (cnd m i nC).length ∧ CV (N (e + 4)) (N (e + 5)) (N (e + 6)) (cnd m i nC) ∧ (∀ a, a ≠ e → a ≠ e + 4 → a ≠ e + 5 → a ≠ e + 6 → N a = M a) ∧ ∀ j, j ≠ 4 → N e j = M e j := by
  have hc := hG.2.2.1
  have heb := kid_b he
  intro d
  induction d with
  | zero =>
    intro w n M h1 h2 hD h4 hV
    obtain ⟨n, rfl⟩ := fu1 h2
    obtain rfl : w = nC := by omega
    exact ⟨M, by simp (disch := omega) only [f_X5_keepConditions_L7, hD.1.2.2.1, hc.1, lit, nI_add, pk_mul, pk_sub, nI_clamp, inb_nI, nI_leI, nI_ltI, nI_eq, add_m1, ↓reduceIte, grd_true, nm_d, jn_d, bd_some, bm_some, om_some, om_none, Nat.le_refl], h4, hV, fun _ _ _ _ _ => rfl, fun _ _ => rfl⟩
  | succ d ih =>
    intro w n M h1 h2 hD h4 hV
    obtain ⟨n, rfl⟩ := fu1 h2
    have h3 : ¬ nC ≤ w := by omega
    have hcl := cnd_len (m := m) (i := i) (w := w)
    simp (disch := omega) only [f_X5_keepConditions_L7, hD.1.2.2.1, hc.1, lit, nI_add, pk_mul, pk_sub, nI_clamp, inb_nI, nI_leI, nI_ltI, nI_eq, add_m1, ↓reduceIte, grd_true, nm_d, jn_d, bd_some, bm_some, om_some, om_none, h3, csent_eq hD hi (show w < 4 by omega), bI_0, h4, up_n, hD.2.1.2.2.1, hD.2.1.2.2.2.1, hD.2.1.2.2.2.2.1]
    cases hs : snt m i w with
    | false =>
      rw [if_pos rfl]
      have e1 : cnd m i (w + 1) = cnd m i w := by simp [cnd, hs]
      exact ih (w + 1) n M (by omega) (by omega) hD (by rw [e1]; exact h4) (by rw [e1]; exact hV)
    | true =>
      rw [if_neg (by decide)]
      obtain ⟨_, c, _, z2, _, z4, _⟩ := hG.2.2.2.2.2.2.2.2.1 w (by omega)
      have hcc : m 25 w = nI (m 25 w).toNatClampNeg := by rw [z2, nI_clamp (by omega)]
      have e1 : cnd m i (w + 1) = cnd m i w ++ [((m 25 w).toNatClampNeg, m 26 w, m 27 w)] := by simp [cnd, hs]
      obtain ⟨N, g1, g2, g3, g4, g5⟩ := ih (w + 1) n (up (up (up (up M (e + 4) (cnd m i w).length (m 25 w)) (e + 5) (cnd m i w).length (m 26 w)) (e + 6) (cnd m i w).length (m 27 w)) e 4 (nI ((cnd m i w).length + 1))) (by omega) (by omega)
        (hD.cg (fun a h1 h2 => by rw [up_n (by omega), up_n (by omega), up_n (by omega), up_n (by omega)]) .rfl)
        (by rw [e1, up_s, List.length_append]; rfl)
        (by
          rw [e1]
          have := CV_snoc (c := ((m 25 w).toNatClampNeg, m 26 w, m 27 w)) hV
          simp only [← hcc] at this
          simp (disch := omega) only [up_n, up_r]
          exact this)
      exact ⟨N, g1, g2, g3, fun a h1 h2 h3 h4 => by rw [g4 a h1 h2 h3 h4, up_n h1, up_n h4, up_n h3, up_n h2], fun j hj => by rw [g5 j hj, up_m hj, up_n (by omega), up_n (by omega), up_n (by omega)]⟩
theorem keep_ok {b : Nat} {x : Int32} (hfu : 5000 ≤ fu) (h : EC M L) (hD : DR M m) (hG : DG m nS nL nC nO) (hi : i < 3) (hs : m 19 i = nI s) (hs6 : s < 6) (hA : RC M b A) (hb : 89 < b) (hT : M 1 0 = nI t) : Ok (f_X3_keep fu (nI i) b x M) (fun N => EC N (rot L ++ [(s, nI t, x, none, none, cnd m i nC, A)]) ∧ ∀ a, a < 2 ∨ a = 4 ∨ a = 5 ∨ 47 < a → N a = M a) := by
  simp only [f_X3_keep]
  rw [ok_bm]
  have h6 : L.length ≤ 6 := by obtain ⟨_, _, _, h, _⟩ := h; exact h
  have hrl := rot_len h6
  refine (nextEntry_ok hfu h).imp ?_
  rintro ⟨o, P⟩ ⟨e, id, ho, hk, hid, hP2, hide, hE, hfr⟩
  dsimp only at ho hid hP2 hide hE hfr
  subst ho
  have hkb := kid_b hk
  have hsrc : M 81 i = nI s := by rw [hD.2.1.1]; exact hs
  have hst := sto hs6
  simp (disch := omega) only [om_some, kid_kb hk, nm_d, inb_nI, grd_true, nI_clamp, up_s, up_n, hfr, hsrc, hst, hT]
  rw [copy_eq (Or.inl (by omega)), bd_some]
  simp only [f_X5_keepConditions, nm_d]
  generalize hQ : up (row (row (up (up (up (up (up (up (up P e 5 (nI s)) e 6 (nI (s / 2))) e 7 (nI t)) e 8 x) e 9 2147483647) e 10 2147483647) (e + 1) 2 (up (up (up (up (up (up P e 5 (nI s)) e 6 (nI (s / 2))) e 7 (nI t)) e 8 x) e 9 2147483647) e 10 2147483647 b 2)) (e + 1 + 1) (va_cpy (up (up (up (up (up (up P e 5 (nI s)) e 6 (nI (s / 2))) e 7 (nI t)) e 8 x) e 9 2147483647) e 10 2147483647 (b + 1)) (up (up (up (up (up (up P e 5 (nI s)) e 6 (nI (s / 2))) e 7 (nI t)) e 8 x) e 9 2147483647) e 10 2147483647 (e + 1 + 1)) 0 0 12)) (e + 1 + 2) (va_cpy (up (up (up (up (up (up P e 5 (nI s)) e 6 (nI (s / 2))) e 7 (nI t)) e 8 x) e 9 2147483647) e 10 2147483647 (b + 2)) (up (up (up (up (up (up P e 5 (nI s)) e 6 (nI (s / 2))) e 7 (nI t)) e 8 x) e 9 2147483647) e 10 2147483647 (e + 1 + 2)) 0 0 48)) e 4 0 = Q
  have fQ : ∀ a, a ≠ e → a ≠ e + 1 → a ≠ e + 2 → a ≠ e + 3 → Q a = P a := fun a h1 h2 h3 h4 => by rw [← hQ]; simp (disch := omega) only [up_n, row_n]
  have rQ : RC Q (e + 1) A := by
    have h0 : RC (up (up (up (up (up (up P e 5 (nI s)) e 6 (nI (s / 2))) e 7 (nI t)) e 8 x) e 9 2147483647) e 10 2147483647) b A := hA.cg (by simp (disch := omega) only [up_n, hfr]) (by simp (disch := omega) only [up_n, hfr]) (by simp (disch := omega) only [up_n, hfr])
    rw [← hQ]
    exact (copy_RC (a := e + 1) h0).cg (by rw [up_n (by omega)]) (by rw [up_n (by omega)]) (by rw [up_n (by omega)])
  have eQ : Q e 5 = nI s ∧ Q e 6 = nI (s / 2) ∧ Q e 7 = nI t ∧ Q e 8 = x ∧ Q e 9 = 2147483647 ∧ Q e 10 = 2147483647 ∧ Q e 4 = nI 0 := by
    rw [← hQ]
    simp (disch := omega) only [up_s, up_m, up_n, row_n]
    decide
  obtain ⟨N, g1, g2, g3, g4, g5⟩ := keepCondL (fu := fu) hk hG hi nC 0 fu Q (by omega) (by have := hG.2.2.1.2; omega) (hD.cg (fun a h1 h2 => by rw [fQ a (by omega) (by omega) (by omega) (by omega)]; exact hfr a (by omega) (by omega)) .rfl) eQ.2.2.2.2.2.2 (fun j c hj => by simp [cnd] at hj)
  rw [show (0 : Int32) = nI 0 from rfl, g1, bd_some, ok_some]
  have fN : ∀ a, a < e ∨ e + 6 < a → N a = P a := fun a ha => by rw [g4 a (by omega) (by omega) (by omega) (by omega), fQ a (by omega) (by omega) (by omega) (by omega)]
  have hlen : (rot L ++ [(s, nI t, x, none, none, cnd m i nC, A)]).length = (rot L).length + 1 := by simp
  refine ⟨⟨id, ⟨hid.1, hid.2.1, fun j hj => by rw [fN 3 (by omega)]; exact hid.2.2 j hj⟩, by rw [fN 2 (by omega), hlen]; exact hP2, by rw [hlen]; omega, fun j E hj => ?_⟩, fun a ha => by rw [fN a (by omega), hfr a (by omega) (by omega)]⟩
  by_cases hj1 : j = (rot L).length
  · subst hj1
    rw [List.getElem?_concat_length] at hj
    cases hj
    rw [hide]
    obtain ⟨q1, q2, q3, q4, q5, q6, q7⟩ := eQ
    refine ⟨⟨by rw [g5 5 (by omega)]; exact q1, hs6, by rw [g5 6 (by omega)]; exact q2, by rw [g5 7 (by omega)]; exact q3, by rw [g5 8 (by omega)]; exact q4, by rw [g5 9 (by omega)]; exact q5, by rw [g5 10 (by omega)]; exact q6⟩, rQ.cg (by rw [g4 _ (by omega) (by omega) (by omega) (by omega)]) (by rw [g4 _ (by omega) (by omega) (by omega) (by omega)]) (by rw [g4 _ (by omega) (by omega) (by omega) (by omega)]), g2, ?_, g3⟩
    have := cnd_len (m := m) (i := i) (w := nC)
    have := hG.2.2.1.2
    show (cnd m i nC).length ≤ 4
    omega
  · have hl := gl_lt hj
    rw [hlen] at hl
    rw [List.getElem?_append_left (by omega)] at hj
    obtain ⟨e1, e2⟩ := hE j E hj
    have hkj := hid.1 j (by omega)
    have hne := kid_ne hkj hk e2
    have hkjb := kid_b hkj
    exact e1.cg (fun a h1 h2 => by rw [fN a (by omega), hfr a (by omega) (by omega)])
end Keep
