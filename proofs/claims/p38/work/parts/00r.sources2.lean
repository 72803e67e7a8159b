/-! ===== sources: the rest ===== -/
section Sources2
variable {fu s t u : Nat} {M m N n : Mem} {RR : Nat → List Row} {R : List Row} {r : Row} {mk : Int32}
theorem inj62 {s s' : Nat} (h : s' ≠ s) : 62 + 3 * s + 2 < 62 + 3 * s' ∨ 62 + 3 * s' + 2 < 62 + 3 * s := by omega
theorem setR_s : setR RR s R s = R := by simp [setR]
theorem setR_n {s' : Nat} (h : s' ≠ s) : setR RR s R s' = RR s' := by simp [setR, h]
theorem setR_set {R' : List Row} : setR (setR RR s R) s R' = setR RR s R' := by funext x; simp only [setR]; split <;> rfl
theorem setR_self (h : R = RR s) : setR RR s R = RR := by
  funext x
  simp only [setR]
  split
  · rw [h]; congr 1; symm; assumption
  · rfl
theorem changeCell_eq {p c : Nat} {v : Int32} (hfu : 5000 ≤ fu) (hs : s < 6) (h : RC M (62 + 3 * s) R) (hp : fst R mk = some p) (hr : R[p]? = some r) (hc : c < 4) : f_X7_changeCell fu (nI s) mk (nI c) v M = bd (f_X7_write fu (nI s) (up (up M 57 6 (M 57 6 + lo s v)) (62 + 3 * s + 2) (4 * p + c) (stv s v))) (fun N => some (cel r c, N)) := by
  have hl := gl_lt hr
  have e1 : f_X6_placeOf fu (62 + 3 * s) mk M = some (nI p) := by rw [placeOf_eq hfu h, hp]; rfl
  simp (disch := omega) only [f_X7_changeCell, nm_d, inb_nI, grd_true, nI_clamp, Nat.reduceAdd, e1, bd_some, cellAt_eq h hr hc, asStored_eq hs, bm_some]
  rw [putCell_eq (n := R.length) (by rw [up_n (by omega)]; exact h.1) h.2.1 hl hc, bd_some]
theorem puts_eq {p c : Nat} {v : Int32} (hfu : 5000 ≤ fu) (hs : s < 6) (h : RM m s R) (hN : NDm R) (hp : fst R mk = some p) (hr : R[p]? = some r) (hc : c < 4) : f_X11_puts fu (nI s) mk (nI c) v m = bd (f_X11_writes fu (nI s) (up m 3 (4 * (12 * s + p) + c) v)) (fun N => some (cel r c, N)) := by
  have hl := gl_lt hr
  have h12 := h.2.1
  have e1 : f_X11_placeOf fu (nI s) mk m = some (nI p) := by rw [mplace_eq hfu h hs hN, hp]; rfl
  simp (disch := omega) only [f_X11_puts, lit, nI_add, pk_mul, pk_sub, nI_clamp, inb_nI, nI_leI, nI_ltI, nI_eq, add_m1, ↓reduceIte, grd_true, nm_d, jn_d, bd_some, bm_some, om_some, om_none, e1, h.cell hr hc]
theorem removeRow_eq {p : Nat} (hfu : 5000 ≤ fu) (hs : s < 6) (h : RC M (62 + 3 * s) R) (hp : fst R mk = some p) : f_X7_removeRow fu (nI s) mk M = f_X7_write fu (nI s) (delM M (62 + 3 * s) R p) := by
  obtain ⟨r, hr, _⟩ := fst_lt hp
  have e1 : f_X6_placeOf fu (62 + 3 * s) mk M = some (nI p) := by rw [placeOf_eq hfu h, hp]; rfl
  have bds : ∀ x : Option Mem, bd x (fun M_19 => some M_19) = x := fun x => by cases x <;> rfl
  simp (disch := omega) only [f_X7_removeRow, nm_d, inb_nI, grd_true, nI_clamp, Nat.reduceAdd, e1, bd_some, dropPlace_eq hfu h (gl_lt hr), bds]
theorem bringBack_eq {b : Nat} (hfu : 5000 ≤ fu) (hs : s < 6) (h : RC M (62 + 3 * s) R) (hl : R.length < 12) (h' : RC M b [r]) (hb : 79 < b) : f_X7_bringBack fu (nI s) b M = f_X7_write fu (nI s) (insM M (62 + 3 * s) R r) := by
  have e1 := takeRow_eq (p := 0) hfu h hl h' rfl (Or.inl (by omega))
  have bds : ∀ x : Option Mem, bd x (fun M_19 => some M_19) = x := fun x => by cases x <;> rfl
  simp (disch := omega) only [f_X7_bringBack, nm_d, inb_nI, grd_true, nI_clamp, Nat.reduceAdd, lit, e1, bd_some, bds]
/-- rows of a source are other ones -/
theorem WR.rows {M' m' : Mem} {R' : List Row} (h : WR M m t u RR) (hs : s < 6) (hC : RC M' (62 + 3 * s) R') (hM : RM m' s R') (hM' : ∀ s', s' < 6 → s' ≠ s → RM m' s' (RR s')) (fC : ∀ a, a ≠ 62 + 3 * s → a ≠ 62 + 3 * s + 1 → a ≠ 62 + 3 * s + 2 → a ≠ 58 → a ≠ 57 → M' a = M a) (fM : ∀ a, 3 < a → a ≠ 4 → m' a = m a) (fM0 : ∀ j, j ≠ 6 → m' 0 j = m 0 j) (hA : M' 58 = m' 4) (hA4 : ∀ s', s' < 6 → s' ≠ s → m' 4 s' = m 4 s') (hlo : M' 57 6 = m' 0 6)
    (hG : SO R' ∧ okR R' ∧ (s / 2 = 1 → ∀ r ∈ R', r.2.2.1 = 5000 ∨ (0 ≤ r.2.2.1 ∧ r.2.2.1 ≤ 99)) ∧ (∃ a, a ≤ 60 ∧ m' 4 s = nI a ∧ (s < 2 → ∀ r ∈ R', ∃ k, k < a ∧ r.1 = nI k))) : WR M' m' t u (setR RR s R') := by
  obtain ⟨hk, hS, hG0, h58, h60, h57⟩ := h
  refine ⟨hk.cg (fun a h1 h2 h3 => fC a (by omega) (by omega) (by omega) (by omega) (by omega)) (fM0 7 (by omega)) (fM0 8 (by omega)) (fM0 39 (by omega)) (fun a h1 h2 => fM a (by omega) (by omega)) (fun a h1 h2 => fM a (by omega) (by omega)), fun s' hs' => ?_, fun s' hs' => ?_, hA, ?_, hlo⟩
  · by_cases hss : s' = s
    · subst hss; rw [setR_s]; exact ⟨hC, hM⟩
    · rw [setR_n hss]
      exact ⟨(hS s' hs').1.cg (by rw [fC _ (by omega) (by omega) (by omega) (by omega) (by omega)]) (fC _ (by omega) (by omega) (by omega) (by omega) (by omega)) (fC _ (by omega) (by omega) (by omega) (by omega) (by omega)), hM' s' hs' hss⟩
  · by_cases hss : s' = s
    · subst hss
      rw [setR_s]
      obtain ⟨g1, g2, g3, g4⟩ := hG
      obtain ⟨_, _, _, _, w, w1, w2⟩ := hG0 s' hs'
      exact ⟨g1, g2, g3, g4, w, w1, by rw [fM 5 (by omega) (by omega)]; exact w2⟩
    · rw [setR_n hss]
      obtain ⟨g1, g2, g3, ⟨a, a1, a2, a3⟩, w, w1, w2⟩ := hG0 s' hs'
      exact ⟨g1, g2, g3, ⟨a, a1, by rw [hA4 s' hs' hss]; exact a2, a3⟩, w, w1, by rw [fM 5 (by omega) (by omega)]; exact w2⟩
  · rw [fC 60 (by omega) (by omega) (by omega) (by omega) (by omega), fM 5 (by omega) (by omega)]; exact h60
/-- the row that an adding makes -/
def addR (m : Mem) (s : Nat) (a b c d : Int32) : Row := ((if s < 2 then m 4 s else a), a, stv s b, c, d)
/-- what has to be so that a row may be added -/
def canA (m : Mem) (RR : Nat → List Row) (s : Nat) (a b c d : Int32) : Prop := (RR s).length < 12 ∧ (s < 2 → m 4 s ≠ nI 60) ∧ (¬ s < 2 → fst (RR s) a = none) ∧ okc a ∧ okc b ∧ okc c ∧ okc d ∧ (s / 2 = 1 → b ≠ 5001)
theorem add2 {a b c d : Int32} (hfu : 5000 ≤ fu) (hs : s < 6) (h : WR M m t u RR) (ht : t < 2 ^ 29) (hu : u < 2 ^ 29) (hc : canA m RR s a b c d) : ∃ N n, f_X7_addRow fu (nI s) a b c d M = some ((addR m s a b c d).1, N) ∧ f_X11_adds fu (nI s) a b c d m = some ((addR m s a b c d).1, n) ∧ WR N n t (u + 1) (setR RR s (insR (RR s) (addR m s a b c d))) ∧ FCw N M ∧ FMw n m ∧ (∀ r' ∈ RR s, r'.1 ≠ (addR m s a b c d).1) := by
  obtain ⟨hk, hS, hG, h58, h60, h57⟩ := h
  obtain ⟨hC, hM⟩ := hS s hs
  obtain ⟨c1, c2, c3, oa, ob, oc, od, oe⟩ := hc
  obtain ⟨g1, g2, g3, ⟨ad, g4, g5, g6⟩, g7⟩ := hG s hs
  have hnew : ∀ r' ∈ RR s, r'.1 ≠ (addR m s a b c d).1 := by
    intro r' hr'
    simp only [addR]
    by_cases h2 : s < 2
    · rw [if_pos h2, g5]
      obtain ⟨k, k1, k2⟩ := g6 h2 r' hr'
      rw [k2]
      intro e
      rw [nI_eq (by omega) (by omega)] at e
      omega
    · rw [if_neg h2]; exact fst_none.mp (c3 h2) r' hr'
  have e1 := addRow_eq (b := b) (c := c) (d := d) (a := a) (M0 := if s < 2 then up M 58 s (M 58 s + 1) else M) (mk := if s < 2 then M 58 s else a) hfu hs hC c1 rfl rfl
  have e2 := adds_eq (c := c) (d := d) (a := a) (mk := if s < 2 then m 4 s else a) hfu hs hM c1 ob rfl
  have emk : (if s < 2 then M 58 s else a) = (addR m s a b c d).1 := by simp only [addR, h58]
  have emk2 : (if s < 2 then m 4 s else a) = (addR m s a b c d).1 := rfl
  rw [emk] at e1
  rw [emk2] at e2
  have er : ((addR m s a b c d).1, a, stv s b, c, d) = addR m s a b c d := rfl
  rw [er] at e1 e2
  generalize hr : addR m s a b c d = r at *
  generalize hM1 : (if s < 2 then up M 58 s (M 58 s + 1) else M) = M1 at *
  generalize hm1 : (if s < 2 then up m 4 s (m 4 s + 1) else m) = m1 at *
  have f1 : ∀ i, i ≠ 58 → M1 i = M i := fun i hi => by
    rw [← hM1]
    split
    · rw [up_n hi]
    · rfl
  have f2 : ∀ i, i ≠ 4 → m1 i = m i := fun i hi => by
    rw [← hm1]
    split
    · rw [up_n hi]
    · rfl
  have hC1 : RC (up M1 57 6 (M 57 6 + lo s b)) (62 + 3 * s) (RR s) := hC.cg (by rw [up_n (by omega), f1 _ (by omega)]) (by rw [up_n (by omega), f1 _ (by omega)]) (by rw [up_n (by omega), f1 _ (by omega)])
  have hM2 : ∀ s', s' < 6 → RM (up m1 0 6 (m 0 6 + lo s b)) s' (RR s') := fun s' hs' => (hS s' hs').2.cg (by rw [up_n (by omega), f2 _ (by omega)]) (by rw [up_n (by omega), f2 _ (by omega)]) (by rw [up_n (by omega), f2 _ (by omega)])
  have hw : WR (insM (up M1 57 6 (M 57 6 + lo s b)) (62 + 3 * s) (RR s) r) (minsM (up m1 0 6 (m 0 6 + lo s b)) s (RR s) r) t u (setR RR s (insR (RR s) r)) := by
    refine WR.rows ⟨hk, hS, hG, h58, h60, h57⟩ hs (insM_RC hC1 c1) (minsM_RM (hM2 s hs) c1) (fun s' hs' hss => minsM_RM' (hM2 s' hs') hss c1) (fun i i1 i2 i3 i4 i5 => by rw [insM_n ⟨i1, i2, i3⟩, up_n i5, f1 i i4]) (fun i i1 i2 => by rw [minsM_n ⟨by omega, by omega, by omega⟩, up_n (by omega), f2 i i2]) (fun j hj => by rw [minsM_n ⟨by omega, by omega, by omega⟩, up_m hj, f2 0 (by omega)]) ?_ (fun s' _ hss => ?_) ?_ ⟨g1.ins hnew, ?_, ?_, ?_⟩
    · rw [insM_n ⟨by omega, by omega, by omega⟩, minsM_n ⟨by omega, by omega, by omega⟩, up_n (by omega), up_n (by omega), ← hM1, ← hm1]
      by_cases h2 : s < 2
      · rw [if_pos h2, if_pos h2, up_r, up_r, h58]
      · rw [if_neg h2, if_neg h2, h58]
    · rw [minsM_n ⟨by omega, by omega, by omega⟩, up_n (by omega), ← hm1]
      split
      · rw [up_m hss]
      · rfl
    · rw [insM_n ⟨by omega, by omega, by omega⟩, minsM_n ⟨by omega, by omega, by omega⟩, up_s, up_s, h57]
    · intro r' hr' c' hc'
      rcases mem_ins hr' with rfl | hh
      · rw [← hr]
        have : c' = 0 ∨ c' = 1 ∨ c' = 2 ∨ c' = 3 := by omega
        rcases this with rfl | rfl | rfl | rfl
        · exact oa
        · exact stv_ok ob
        · exact oc
        · exact od
      · exact g2 r' hh c' hc'
    · intro h2 r' hr'
      rcases mem_ins hr' with rfl | hh
      · rw [← hr]; exact stv_in ob (oe h2) h2
      · exact g3 h2 r' hh
    · rw [minsM_n ⟨by omega, by omega, by omega⟩, up_n (by omega), ← hm1]
      by_cases h2 : s < 2
      · rw [if_pos h2, up_s, g5]
        have h60 : ad ≠ 60 := fun e => c2 h2 (by rw [g5, e])
        refine ⟨ad + 1, by omega, nI_add ad 1, fun _ r' hr' => ?_⟩
        rcases mem_ins hr' with rfl | hh
        · refine ⟨ad, by omega, ?_⟩
          rw [← hr]
          simp only [addR, if_pos h2, g5]
        · obtain ⟨k, k1, k2⟩ := g6 h2 r' hh
          exact ⟨k, by omega, k2⟩
      · rw [if_neg h2]
        exact ⟨ad, g4, g5, fun hh => absurd hh h2⟩
  obtain ⟨N, n, e3, e4, w1, w2, w3⟩ := hw.write hfu hs ht hu
  rw [e3, bd_some] at e1
  rw [e4, bd_some] at e2
  refine ⟨N, n, e1, e2, w1, w2.trans (fun i hi => ?_), w3.trans ⟨fun i i1 i2 => ?_, fun j j1 j2 j3 => ?_, fun s' a' hs' e' ha' => ?_⟩, hnew⟩
  · rw [insM_n ⟨by omega, by omega, by omega⟩, up_n (by omega), f1 i (by omega)]
  · rw [minsM_n ⟨by omega, by omega, by omega⟩, up_n (by omega), f2 i (by omega)]
  · rw [minsM_n ⟨by omega, by omega, by omega⟩, up_m j1, f2 0 (by omega)]
  · rw [minsM_n ⟨by omega, by omega, by omega⟩, up_n (by omega), ← hm1]
    by_cases h2 : s < 2
    · rw [if_pos h2]
      by_cases hss : s' = s
      · subst hss
        rw [up_s, e']
        have h60 : a' ≠ 60 := fun e => c2 h2 (by rw [e', e])
        exact ⟨a' + 1, by omega, by omega, nI_add a' 1⟩
      · rw [up_m hss]; exact ⟨a', Nat.le_refl _, ha', e'⟩
    · rw [if_neg h2]; exact ⟨a', Nat.le_refl _, ha', e'⟩
theorem change2 {c p : Nat} {v w : Int32} (hfu : 5000 ≤ fu) (hs : s < 6) (h : WR M m t u RR) (ht : t < 2 ^ 29) (hu : u < 2 ^ 29) (hp : fst (RR s) mk = some p) (hr : (RR s)[p]? = some r) (hc : c < 4) (hcw : s / 2 = 1 → c = 1) (hv : okc v) (hv5 : s / 2 = 1 → v ≠ 5001) : ∃ N n, f_X7_changeCell fu (nI s) mk (nI c) v M = some (cel r c, N) ∧ f_X11_puts fu (nI s) mk (nI c) (stv s v) (up m 0 6 (m 0 6 + lo s v)) = some (cel r c, n) ∧ WR N n t (u + 1) (setR RR s ((RR s).set p (setc r c (stv s v)))) ∧ FCw N M ∧ FMw n m := by
  obtain ⟨hk, hS, hG, h58, h60, h57⟩ := h
  obtain ⟨hC, hM⟩ := hS s hs
  obtain ⟨g1, g2, g3, ⟨ad, g4, g5, g6⟩, g7⟩ := hG s hs
  have hl := gl_lt hr
  have hl12 := hC.2.1
  have hM1 : ∀ s', s' < 6 → RM (up m 0 6 (m 0 6 + lo s v)) s' (RR s') := fun s' hs' => (hS s' hs').2.cg (by rw [up_n (by omega)]) (by rw [up_n (by omega)]) (by rw [up_n (by omega)])
  have e1 := changeCell_eq (v := v) hfu hs hC hp hr hc
  have e2 := puts_eq (v := stv s v) hfu hs (hM1 s hs) g1.nd hp hr hc
  have hw : WR (up (up M 57 6 (M 57 6 + lo s v)) (62 + 3 * s + 2) (4 * p + c) (stv s v)) (up (up m 0 6 (m 0 6 + lo s v)) 3 (4 * (12 * s + p) + c) (stv s v)) t u (setR RR s ((RR s).set p (setc r c (stv s v)))) := by
    refine WR.rows ⟨hk, hS, hG, h58, h60, h57⟩ hs (RC_set (hC.cg (by rw [up_n (by omega)]) (by rw [up_n (by omega)]) (by rw [up_n (by omega)])) hr hc) (RM_set (hM1 s hs) hr hc) (fun s' hs' hss => RM_set' (hM1 s' hs') hss (by omega) hc) (fun i i1 i2 i3 i4 i5 => by rw [up_n i3, up_n i5]) (fun i i1 i2 => by rw [up_n (by omega), up_n (by omega)]) (fun j hj => by rw [up_n (by omega), up_m hj]) ?_ (fun s' _ hss => ?_) ?_ ⟨g1.set hr, ?_, ?_, ad, g4, ?_, ?_⟩
    · rw [up_n (by omega), up_n (by omega), up_n (by omega), up_n (by omega)]; exact h58
    · rw [up_n (by omega), up_n (by omega)]
    · rw [up_n (by omega), up_s, up_n (by omega), up_s, h57]
    · intro r' hr' c' hc'
      rcases List.mem_or_eq_of_mem_set hr' with hh | rfl
      · exact g2 r' hh c' hc'
      · rw [setc_at hc hc']
        split
        · exact stv_ok hv
        · exact g2 r (List.mem_of_getElem? hr) c' hc'
    · intro h2 r' hr'
      rcases List.mem_or_eq_of_mem_set hr' with hh | rfl
      · exact g3 h2 r' hh
      · have := setc_at (r := r) (v := stv s v) (c := c) (k := 1) hc (by omega)
        rw [if_pos (hcw h2).symm] at this
        have e : (setc r c (stv s v)).2.2.1 = stv s v := this
        rw [e]
        exact stv_in hv (hv5 h2) h2
    · rw [up_n (by omega), up_n (by omega)]; exact g5
    · intro h2 r' hr'
      rcases List.mem_or_eq_of_mem_set hr' with hh | rfl
      · exact g6 h2 r' hh
      · exact g6 h2 r (List.mem_of_getElem? hr)
  obtain ⟨N, n, e3, e4, w1, w2, w3⟩ := hw.write hfu hs ht hu
  rw [e3, bd_some] at e1
  rw [e4, bd_some] at e2
  refine ⟨N, n, e1, e2, w1, w2.trans (fun i hi => ?_), w3.trans ⟨fun i i1 i2 => ?_, fun j j1 j2 j3 => ?_, fun s' a' _ e' ha' => ⟨a', Nat.le_refl _, ha', ?_⟩⟩⟩
  · rw [up_n (by omega), up_n (by omega)]
  · rw [up_n (by omega), up_n (by omega)]
  · rw [up_n (by omega), up_m j1]
  · rw [up_n (by omega), up_n (by omega)]; exact e'
theorem remove2 {p : Nat} (hfu : 5000 ≤ fu) (hs : s < 6) (h : WR M m t u RR) (ht : t < 2 ^ 29) (hu : u < 2 ^ 29) (hp : fst (RR s) mk = some p) : ∃ N n, f_X7_removeRow fu (nI s) mk M = some N ∧ f_X11_takesOut fu (nI s) mk m = some n ∧ WR N n t (u + 1) (setR RR s ((RR s).eraseIdx p)) ∧ FCw N M ∧ FMw n m := by
  obtain ⟨hk, hS, hG, h58, h60, h57⟩ := h
  obtain ⟨hC, hM⟩ := hS s hs
  obtain ⟨g1, g2, g3, ⟨ad, g4, g5, g6⟩, g7⟩ := hG s hs
  obtain ⟨r, hr, _⟩ := fst_lt hp
  have hl := gl_lt hr
  have hl12 := hC.2.1
  have e1 := removeRow_eq hfu hs hC hp
  have e2 := mtakes_eq hfu hM hs g1.nd hp
  have hmem : ∀ r' ∈ (RR s).eraseIdx p, r' ∈ RR s := fun r' hr' => List.mem_of_mem_eraseIdx hr'
  have hw : WR (delM M (62 + 3 * s) (RR s) p) (mdelM m s (RR s) p) t u (setR RR s ((RR s).eraseIdx p)) := by
    refine WR.rows ⟨hk, hS, hG, h58, h60, h57⟩ hs (delM_RC hC hl) (mdelM_RM hM hl) (fun s' hs' hss => mdelM_RM' (hS s' hs').2 hss hl12 hl) (fun i i1 i2 i3 i4 i5 => by rw [delM_n ⟨i1, i2, i3⟩]) (fun i i1 i2 => by rw [mdelM_n ⟨by omega, by omega, by omega⟩]) (fun j hj => by rw [mdelM_n ⟨by omega, by omega, by omega⟩]) ?_ (fun s' _ hss => ?_) ?_ ⟨g1.tail, fun r' hr' => g2 r' (hmem r' hr'), fun h2 r' hr' => g3 h2 r' (hmem r' hr'), ad, g4, ?_, fun h2 r' hr' => g6 h2 r' (hmem r' hr')⟩
    · rw [delM_n ⟨by omega, by omega, by omega⟩, mdelM_n ⟨by omega, by omega, by omega⟩]; exact h58
    · rw [mdelM_n ⟨by omega, by omega, by omega⟩]
    · rw [delM_n ⟨by omega, by omega, by omega⟩, mdelM_n ⟨by omega, by omega, by omega⟩]; exact h57
    · rw [mdelM_n ⟨by omega, by omega, by omega⟩]; exact g5
  obtain ⟨N, n, e3, e4, w1, w2, w3⟩ := hw.write hfu hs ht hu
  rw [e3] at e1
  rw [e4] at e2
  refine ⟨N, n, e1, e2, w1, w2.trans (fun i hi => ?_), w3.trans ⟨fun i i1 i2 => ?_, fun j j1 j2 j3 => ?_, fun s' a' _ e' ha' => ⟨a', Nat.le_refl _, ha', ?_⟩⟩⟩
  · rw [delM_n ⟨by omega, by omega, by omega⟩]
  · rw [mdelM_n ⟨by omega, by omega, by omega⟩]
  · rw [mdelM_n ⟨by omega, by omega, by omega⟩]
  · rw [mdelM_n ⟨by omega, by omega, by omega⟩]; exact e'
theorem back2 {b : Nat} (hfu : 5000 ≤ fu) (hs : s < 6) (h : WR M m t u RR) (ht : t < 2 ^ 29) (hu : u < 2 ^ 29) (hl : (RR s).length < 12) (hb : RC M b [r]) (hb79 : 79 < b) (hnew : ∀ r' ∈ RR s, r'.1 ≠ r.1) (hok : ∀ c, c < 4 → okc (cel r c)) (h5 : s / 2 = 1 → r.2.2.1 = 5000 ∨ (0 ≤ r.2.2.1 ∧ r.2.2.1 ≤ 99)) (had : ∀ a, m 4 s = nI a → a ≤ 60 → s < 2 → ∃ k, k < a ∧ r.1 = nI k) : ∃ N n, f_X7_bringBack fu (nI s) b M = some N ∧ f_X11_inserts fu (nI s) r.1 r.2.1 r.2.2.1 r.2.2.2.1 r.2.2.2.2 m = some n ∧ WR N n t (u + 1) (setR RR s (insR (RR s) r)) ∧ FCw N M ∧ FMw n m := by
  obtain ⟨hk, hS, hG, h58, h60, h57⟩ := h
  obtain ⟨hC, hM⟩ := hS s hs
  obtain ⟨g1, g2, g3, ⟨ad, g4, g5, g6⟩, g7⟩ := hG s hs
  have e1 := bringBack_eq hfu hs hC hl hb hb79
  have e2 := minserts_eq (r := r) hfu hM hs hl
  have hw : WR (insM M (62 + 3 * s) (RR s) r) (minsM m s (RR s) r) t u (setR RR s (insR (RR s) r)) := by
    refine WR.rows ⟨hk, hS, hG, h58, h60, h57⟩ hs (insM_RC hC hl) (minsM_RM hM hl) (fun s' hs' hss => minsM_RM' (hS s' hs').2 hss hl) (fun i i1 i2 i3 i4 i5 => by rw [insM_n ⟨i1, i2, i3⟩]) (fun i i1 i2 => by rw [minsM_n ⟨by omega, by omega, by omega⟩]) (fun j hj => by rw [minsM_n ⟨by omega, by omega, by omega⟩]) ?_ (fun s' _ hss => ?_) ?_ ⟨g1.ins hnew, ?_, ?_, ad, g4, ?_, ?_⟩
    · rw [insM_n ⟨by omega, by omega, by omega⟩, minsM_n ⟨by omega, by omega, by omega⟩]; exact h58
    · rw [minsM_n ⟨by omega, by omega, by omega⟩]
    · rw [insM_n ⟨by omega, by omega, by omega⟩, minsM_n ⟨by omega, by omega, by omega⟩]; exact h57
    · intro r' hr' c' hc'
      rcases mem_ins hr' with rfl | hh
      · exact hok c' hc'
      · exact g2 r' hh c' hc'
    · intro h2 r' hr'
      rcases mem_ins hr' with rfl | hh
      · exact h5 h2
      · exact g3 h2 r' hh
    · rw [minsM_n ⟨by omega, by omega, by omega⟩]; exact g5
    · intro h2 r' hr'
      rcases mem_ins hr' with rfl | hh
      · exact had ad g5 g4 h2
      · exact g6 h2 r' hh
  obtain ⟨N, n, e3, e4, w1, w2, w3⟩ := hw.write hfu hs ht hu
  rw [e3] at e1
  rw [e4] at e2
  refine ⟨N, n, e1, e2, w1, w2.trans (fun i hi => ?_), w3.trans ⟨fun i i1 i2 => ?_, fun j j1 j2 j3 => ?_, fun s' a' _ e' ha' => ⟨a', Nat.le_refl _, ha', ?_⟩⟩⟩
  · rw [insM_n ⟨by omega, by omega, by omega⟩]
  · rw [minsM_n ⟨by omega, by omega, by omega⟩]
  · rw [minsM_n ⟨by omega, by omega, by omega⟩]
  · rw [minsM_n ⟨by omega, by omega, by omega⟩]; exact e'
end Sources2
