/-! ===== settings, whole ===== -/
section Set2L
variable {fu t u t1 u1 k0 s a b k : Nat} {M m N n M1 M0 m0 : Mem} {w v e p1 p2 p3 : Int32} {km : Nat → Nat} {f : Option XR} {g : Option (Int32 × Mem)} {cs : List Nat}
theorem fin1 {Fv : Option (Int32 × Mem)} {t' u' : Nat} {e' : Int32} (hF : ∃ M' m', Fv = some (e, M') ∧ INV M' m' t' u') (he : e = e') (h1 : t ≤ t') (h2 : t' ≤ t + 1500) (h3 : u ≤ u') (h4 : u' ≤ u + 8) : RES (bm Fv (fun r M => if r = e' then some ((1 : Int32), M) else some ((0 : Int32), M))) t u := by
  obtain ⟨M', m', e1, e2⟩ := hF
  subst he
  rw [e1, bm_some, if_pos rfl]
  exact ⟨M', m', t', u', rfl, e2, h1, h2, h3, h4⟩
theorem LR.sm (hL : LR M0 m0 t u) (h : SM M m M0 m0 t u) : LR M m t u := hL.cg (fun a z _ => h.2.1 a z) h.2.2 h.1.e3c
theorem LR.pl (h : LR M m t u) : PL M m ∧ KG m ∧ TN M m t u ∧ FL M m := by
  obtain ⟨RR, nS, nL, nC, nO, ⟨h1, h2, h3⟩, _, _, ⟨_, h4, _⟩, _⟩ := h
  exact ⟨h2, h3, h1, h4⟩
theorem LR.e3c (h : LR M m t u) : e3 M = true := by obtain ⟨_, _, _, _, _, _, _, _, _, _, _, _, h3⟩ := h; exact h3
theorem LR.s145 (h : LR M m t u) (o1 : ∀ x, x ≠ 145 → N x = M x) (o2 : ∀ x, x ≠ 0 → (x < 6 ∨ 14 < x ∨ x = 10) → n x = m x) (o3 : ∀ j, j ≠ 0 → n 0 j = m 0 j) (hP' : PL N n) (hG' : KG n) : LR N n t u := by
  obtain ⟨hP, hG, hT, hF⟩ := h.pl
  have h3 := h.e3c
  refine h.set (hT.cg (o1 147 (by omega)) (o1 148 (by omega)) (o1 144 (by omega)) (by rw [o1 152 (by omega)]; exact ⟨rfl, rfl, rfl⟩) (o3 7 (by omega)) (o3 8 (by omega)) (o3 39 (by omega)) (o2 5 (by omega) (by omega)) (fun a _ _ => o2 a (by omega) (by omega)) (o2 10 (by omega) (by omega))) hP' hG' ?_ ?_ ?_ ?_ ?_ ?_ (by rw [e3_cg (o1 3 (by omega))]; exact h3)
  · intro s' hs'
    rw [o1 153 (by omega), o2 17 (by omega) (by omega)]
    exact hF s' hs'
  · intro a z; exact o1 a (by omega)
  · intro j _; rw [o1 153 (by omega)]
  · intro j z1 z2 z3; rw [o1 152 (by omega)]
  · intro a z1 z2 z3 z4; exact o2 a z1 (by omega)
  · intro j z1 z2 z3 z4; exact o3 j z1
theorem LR.pace (h : LR M m t u) (hs : s < 3) (ha : a ≤ 30) (hb : b ≤ 60) : LR (up (up M 145 s (nI a)) 145 (3 + s) (nI b)) (up (up (up m 0 0 0) 6 s (nI a)) 7 s (nI b)) t u := by
  obtain ⟨hP, hG, hT, hF⟩ := h.pl
  refine h.s145 (fun x hx => by rw [up_n hx, up_n hx]) (fun x hx hy => by rw [up_n (by omega), up_n (by omega), up_n hx]) (fun j hj => by rw [up_n (by omega), up_n (by omega), up_m hj]) ?_ ⟨?_, ?_, ?_, ?_, ?_⟩
  · intro j hj
    obtain ⟨q1, q2, q3, q4, q5, q6, q7, q8, q9, q10, q11⟩ := hP j hj
    refine ⟨?_, ?_, ?_, ?_, ?_, ?_, ?_, ?_, ?_, ?_, ?_⟩
    · by_cases z : j = s
      · subst z; rw [up_m (by omega), up_s, up_n (by omega), up_s]
      · rw [up_m (by omega), up_m z, up_n (by omega), up_m z, up_n (by omega)]; exact q1
    · by_cases z : j = s
      · subst z; rw [up_s, up_s]
      · rw [up_m (by omega), up_m (by omega), up_m z, up_n (by omega), up_n (by omega)]; exact q2
    all_goals (simp (disch := omega) only [up_m, up_n]; assumption)
  · rw [up_n (by omega), up_a]; exact inr_upd (by rw [up_n (by omega)]; exact hG.1) ha
  · rw [up_a, up_n (by omega), up_n (by omega)]; exact inr_upd hG.2.1 hb
  · rw [up_n (by omega), up_n (by omega), up_n (by omega)]; exact hG.2.2.1
  · rw [up_n (by omega), up_n (by omega), up_n (by omega)]; exact hG.2.2.2.1
  · rw [up_n (by omega), up_n (by omega), up_n (by omega)]; exact hG.2.2.2.2
theorem LR.bnd (h : LR M m t u) (hs : s < 3) (hb : b ≤ 12) : LR (up (up M 145 (6 + s) (nI a)) 145 (9 + s) (nI b)) (up (up (up m 0 0 0) 8 s (nI a)) 9 s (nI b)) t u := by
  obtain ⟨hP, hG, hT, hF⟩ := h.pl
  refine h.s145 (fun x hx => by rw [up_n hx, up_n hx]) (fun x hx hy => by rw [up_n (by omega), up_n (by omega), up_n hx]) (fun j hj => by rw [up_n (by omega), up_n (by omega), up_m hj]) ?_ ⟨?_, ?_, ?_, ?_, ?_⟩
  · intro j hj
    obtain ⟨q1, q2, q3, q4, q5, q6, q7, q8, q9, q10, q11⟩ := hP j hj
    refine ⟨?_, ?_, ?_, ?_, ?_, ?_, ?_, ?_, ?_, ?_, ?_⟩
    · simp (disch := omega) only [up_m, up_n]; assumption
    · simp (disch := omega) only [up_m, up_n]; assumption
    · by_cases z : j = s
      · subst z; rw [up_m (by omega), up_s, up_n (by omega), up_s]
      · rw [up_m (by omega), up_m (by omega), up_n (by omega), up_m z, up_n (by omega)]; exact q3
    · by_cases z : j = s
      · subst z; rw [up_s, up_s]
      · rw [up_m (by omega), up_m (by omega), up_m z, up_n (by omega), up_n (by omega)]; exact q4
    all_goals (simp (disch := omega) only [up_m, up_n]; assumption)
  · rw [up_n (by omega), up_n (by omega), up_n (by omega)]; exact hG.1
  · rw [up_n (by omega), up_n (by omega), up_n (by omega)]; exact hG.2.1
  · rw [up_a, up_n (by omega), up_n (by omega)]; exact inr_upd hG.2.2.1 hb
  · rw [up_n (by omega), up_n (by omega), up_n (by omega)]; exact hG.2.2.2.1
  · rw [up_n (by omega), up_n (by omega), up_n (by omega)]; exact hG.2.2.2.2
theorem LR.fails (h : LR M m t u) (hs : s < 3) (ha : a ≤ 20) : LR (up (up M 145 (15 + s) (nI a)) 145 (18 + s) v) (up (up (up m 0 0 0) 11 s (nI a)) 12 s v) t u := by
  obtain ⟨hP, hG, hT, hF⟩ := h.pl
  refine h.s145 (fun x hx => by rw [up_n hx, up_n hx]) (fun x hx hy => by rw [up_n (by omega), up_n (by omega), up_n hx]) (fun j hj => by rw [up_n (by omega), up_n (by omega), up_m hj]) ?_ ⟨?_, ?_, ?_, ?_, ?_⟩
  · intro j hj
    obtain ⟨q1, q2, q3, q4, q5, q6, q7, q8, q9, ⟨q, q10, q10'⟩, q11⟩ := hP j hj
    refine ⟨?_, ?_, ?_, ?_, ?_, ?_, ?_, ?_, ?_, ?_, ?_⟩
    · simp (disch := omega) only [up_m, up_n]; assumption
    · simp (disch := omega) only [up_m, up_n]; assumption
    · simp (disch := omega) only [up_m, up_n]; assumption
    · simp (disch := omega) only [up_m, up_n]; assumption
    · simp (disch := omega) only [up_m, up_n]; assumption
    · by_cases z : j = s
      · subst z; rw [up_m (by omega), up_s, up_n (by omega), up_s]
      · rw [up_m (by omega), up_m (by omega), up_n (by omega), up_m z, up_n (by omega)]; exact q6
    · by_cases z : j = s
      · subst z; rw [up_s, up_s]
      · rw [up_m (by omega), up_m (by omega), up_m z, up_n (by omega), up_n (by omega)]; exact q7
    · simp (disch := omega) only [up_m, up_n]; assumption
    · simp (disch := omega) only [up_m, up_n]; assumption
    · by_cases z : j = s
      · subst z; exact ⟨a, ha, by rw [up_n (by omega), up_s]⟩
      · exact ⟨q, q10, by rw [up_n (by omega), up_m z, up_n (by omega)]; exact q10'⟩
    · simp (disch := omega) only [up_m, up_n]; assumption
  · rw [up_n (by omega), up_n (by omega), up_n (by omega)]; exact hG.1
  · rw [up_n (by omega), up_n (by omega), up_n (by omega)]; exact hG.2.1
  · rw [up_n (by omega), up_n (by omega), up_n (by omega)]; exact hG.2.2.1
  · rw [up_n (by omega), up_n (by omega), up_n (by omega)]; exact hG.2.2.2.1
  · rw [up_n (by omega), up_n (by omega), up_n (by omega)]; exact hG.2.2.2.2
theorem LR.frb (h : LR M m t u) (hs : s < 6) (hk : k < 8) : LR (up M 153 (8 + s) (nI k)) (up (up m 0 0 0) 17 s (nI k)) t u := by
  obtain ⟨hP, hG, hT, hF⟩ := h.pl
  have o1 : ∀ x, x ≠ 153 → up M 153 (8 + s) (nI k) x = M x := fun x hx => up_n hx
  have o2 : ∀ x, x ≠ 0 → x ≠ 17 → up (up m 0 0 0) 17 s (nI k) x = m x := fun x hx hy => by rw [up_n hy, up_n hx]
  have o3 : ∀ j, j ≠ 0 → up (up m 0 0 0) 17 s (nI k) 0 j = m 0 j := fun j hj => by rw [up_n (by omega), up_m hj]
  refine h.set (hT.cg (o1 147 (by omega)) (o1 148 (by omega)) (o1 144 (by omega)) (by rw [o1 152 (by omega)]; exact ⟨rfl, rfl, rfl⟩) (o3 7 (by omega)) (o3 8 (by omega)) (o3 39 (by omega)) (o2 5 (by omega) (by omega)) (fun a _ _ => o2 a (by omega) (by omega)) (o2 10 (by omega) (by omega))) (hP.cg (o1 145 (by omega)) (fun a z1 z2 => o2 a (by omega) (by omega))) (KG.cg hG (fun a ha => o2 a (by omega) (by omega))) ?_ ?_ ?_ ?_ ?_ ?_ (by rw [e3_cg (o1 3 (by omega))]; exact h.e3c)
  · intro s' hs'
    by_cases z : s' = s
    · subst z; rw [up_s, up_s]; exact ⟨rfl, k, hk, rfl⟩
    · rw [up_m (by omega), up_m z, up_n (by omega)]; exact hF s' hs'
  · intro a z; exact o1 a (by omega)
  · intro j z; rw [up_m (by omega)]
  · intro j z1 z2 z3; rw [o1 152 (by omega)]
  · intro a z1 z2 z3 z4; exact o2 a z1 (by omega)
  · intro j z1 z2 z3 z4; exact o3 j z1
/-- the law's reckoning of the time, then the call -/
theorem LR.lease (hfu : 5000 ≤ fu) (h : LR M m t u) (hs : s < 3) (ha : a ≤ 200) (ht : t < 2 ^ 27) : ∃ N n, f_L_age fu (up M 145 (12 + s) (nI a)) = some N ∧ f_X11_drops fu (up (up m 0 0 0) 10 s (nI a)) = some n ∧ LR N n t u ∧ (∀ a, a < 142 → N a = M a) ∧ n 0 0 = 0 := by
  obtain ⟨hP, hG, hT, hF⟩ := h.pl
  have h3 := h.e3c
  let M1 := up M 145 (12 + s) (nI a)
  let m1 := up (up m 0 0 0) 10 s (nI a)
  have hP1 : PL M1 m1 := by
    intro j hj
    obtain ⟨q1, q2, q3, q4, q5, q6, q7, q8, q9, q10, ⟨q, q11, q12⟩⟩ := hP j hj
    refine ⟨?_, ?_, ?_, ?_, ?_, ?_, ?_, ?_, ?_, ?_, ?_⟩
    · show up M 145 _ _ 145 _ = up (up m 0 0 0) 10 _ _ _ _; simp (disch := omega) only [up_m, up_n]; assumption
    · show up M 145 _ _ 145 _ = up (up m 0 0 0) 10 _ _ _ _; simp (disch := omega) only [up_m, up_n]; assumption
    · show up M 145 _ _ 145 _ = up (up m 0 0 0) 10 _ _ _ _; simp (disch := omega) only [up_m, up_n]; assumption
    · show up M 145 _ _ 145 _ = up (up m 0 0 0) 10 _ _ _ _; simp (disch := omega) only [up_m, up_n]; assumption
    · show up M 145 _ _ 145 _ = up (up m 0 0 0) 10 _ _ _ _
      by_cases z : j = s
      · subst z; rw [up_s, up_s]
      · rw [up_m (by omega), up_m z, up_n (by omega)]; exact q5
    · show up M 145 _ _ 145 _ = up (up m 0 0 0) 10 _ _ _ _; simp (disch := omega) only [up_m, up_n]; assumption
    · show up M 145 _ _ 145 _ = up (up m 0 0 0) 10 _ _ _ _; simp (disch := omega) only [up_m, up_n]; assumption
    · show up M 145 _ _ 145 _ = up (up m 0 0 0) 10 _ _ _ _; simp (disch := omega) only [up_m, up_n]; assumption
    · show up M 145 _ _ 145 _ = up (up m 0 0 0) 10 _ _ _ _; simp (disch := omega) only [up_m, up_n]; assumption
    · obtain ⟨k, w1, w2⟩ := q10; exact ⟨k, w1, by show up (up m 0 0 0) 10 _ _ _ _ = _; simp (disch := omega) only [up_n]; exact w2⟩
    · by_cases z : j = s
      · subst z; exact ⟨a, ha, by show up (up m 0 0 0) 10 _ _ _ _ = _; rw [up_s]⟩
      · exact ⟨q, q11, by show up (up m 0 0 0) 10 _ _ _ _ = _; rw [up_m z, up_n (by omega)]; exact q12⟩
  have o1 : ∀ x, x ≠ 145 → M1 x = M x := fun x hx => up_n hx
  have o2 : ∀ x, x ≠ 0 → x ≠ 10 → m1 x = m x := fun x hx hy => by show up (up m 0 0 0) 10 _ _ _ = _; rw [up_n hy, up_n hx]
  have o3 : ∀ j, j ≠ 0 → m1 0 j = m 0 j := fun j hj => by show up (up m 0 0 0) 10 _ _ _ _ = _; rw [up_n (by omega), up_m hj]
  have hTL : TL M1 m1 t u := hT.tl.cg (o1 147 (by omega)) (o1 148 (by omega)) (o1 144 (by omega)) (by rw [o1 152 (by omega)]; exact ⟨rfl, rfl, rfl⟩) (o3 7 (by omega)) (o3 8 (by omega)) (o3 39 (by omega)) (o2 5 (by omega) (by omega)) (fun a _ _ => o2 a (by omega) (by omega))
  obtain ⟨N, n, a1, a2, a3, a4, a5, a6, a7⟩ := drop_L hfu hTL ht (fun j hj => (hP1 j hj).2.2.2.2.1)
  have h3' : e3 N = true := by rw [e3_cg (by rw [a4.1 3 (by omega) (by omega) (by omega), o1 3 (by omega)])]; exact h3
  refine ⟨N, n, a1, a2, h.set a3 (hP1.cg (a4.1 145 (by omega) (by omega) (by omega)) (fun a z1 z2 => a6 a (by omega) (by omega))) ?_ ?_ ?_ ?_ ?_ ?_ ?_ h3', ?_, ?_⟩
  · refine KG.cg hG ?_
    intro a ha
    have : a ≠ 10 ∧ 0 < a ∧ (a < 30) := by omega
    rw [a6 a this.2.1 (Or.inl this.2.2), o2 a (by omega) this.1]
  · intro s' hs'
    rw [a4.1 153 (by omega) (by omega) (by omega), o1 153 (by omega), a6 17 (by omega) (by omega), o2 17 (by omega) (by omega)]
    exact hF s' hs'
  · intro a z; rw [a4.1 a (by omega) (by omega) (by omega), o1 a (by omega)]
  · intro j _; rw [a4.1 153 (by omega) (by omega) (by omega), o1 153 (by omega)]
  · intro j z1 z2 z3; rw [a4.2 j z2 z3, o1 152 (by omega)]
  · intro a z1 z2 z3 z4; rw [a6 a (by omega) z4, o2 a z1 (by omega)]
  · intro j z1 z2 z3 z4; rw [a7 j z4, o3 j z1]
  · intro a ha; rw [a4.1 a (by omega) (by omega) (by omega), o1 a (by omega)]
  · rw [a7 0 (by omega)]; show up (up m 0 0 0) 10 _ _ _ _ = _; rw [up_n (by omega), up_s]
theorem LR.pass (hfu : 5000 ≤ fu) (h : LR M m t u) (ht : t + a < 2 ^ 27) : ∃ N n, f_L_age fu (up M 152 1 (nI (t + a))) = some N ∧ f_X11_goes fu (nI a) (up m 0 0 0) = some n ∧ LR N n (t + a) u ∧ (∀ a, a < 142 → N a = M a) ∧ n 0 0 = 0 := by
  have hL0 : LR M (up m 0 0 0) t u := h.cg (fun _ _ _ => rfl) .up0 (by obtain ⟨_, _, _, _, _, _, _, _, _, _, _, _, h3⟩ := h; exact h3)
  have h3 := h.e3c
  obtain ⟨hP, hG, hT, hF⟩ := hL0.pl
  obtain ⟨N, n, a1, a2, a3, a4, a5, a6⟩ := goes_L hfu hT.tl hP ht
  have h3' : e3 N = true := by rw [e3_cg (by rw [a5.1 3 (by omega) (by omega) (by omega)])]; exact h3
  refine ⟨N, n, a1, a2, hL0.set a3 a4 ?_ ?_ ?_ ?_ ?_ ?_ ?_ h3', ?_, ?_⟩
  · refine KG.cg hG ?_
    intro a ha
    exact a6.1 a (by omega) (by omega)
  · intro s' hs'
    rw [a5.1 153 (by omega) (by omega) (by omega), a6.1 17 (by omega) (by omega)]
    exact hF s' hs'
  · intro a z; rw [a5.1 a (by omega) (by omega) (by omega)]
  · intro j _; rw [a5.1 153 (by omega) (by omega) (by omega)]
  · intro j z1 z2 z3; rw [a5.2 j z2 z3]
  · intro a z1 z2 z3 z4; rw [a6.1 a (by omega) z4]
  · intro j z1 z2 z3 z4; rw [a6.2 j z3 z4]
  · intro a ha; rw [a5.1 a (by omega) (by omega) (by omega)]
  · rw [a6.2 0 (by omega) (by omega), up_s]
end Set2L
