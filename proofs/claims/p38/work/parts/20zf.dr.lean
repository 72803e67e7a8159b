/-! ===== drafts ===== -/
section DrL
variable {fu t u t1 u1 k0 s i a b c d k nS nL nC nO : Nat} {M m N n M1 M0 m0 : Mem} {w v e p1 p2 p3 p4 : Int32} {km : Nat → Nat} {f : Option XR} {g : Option (Int32 × Mem)} {cs' : List Nat}
theorem LR.dr {nS nL nC nO : Nat} (h : LR M m t u) (fM : ∀ a, 142 ≤ a → a ≤ 156 → a ≠ 146 → N a = M a) (fm : ∀ a, a ≠ 0 → (a < 19 ∨ 29 < a) → n a = m a) (f0 : ∀ j, j ≠ 0 → (j < 22 ∨ 38 < j) → n 0 j = m 0 j) (hD : DL N n nS nL nC nO) (hDG : DG n nS nL nC nO) (h3 : e3 N = true) : LR N n t u := by
  obtain ⟨RR, _, _, _, _, ⟨hT, hP, hG⟩, _, hR, ⟨hZ, hF, hA⟩, h2, hLA, hS, _⟩ := h
  refine ⟨RR, nS, nL, nC, nO, ⟨hT.cg (fM 147 (by omega) (by omega) (by omega)) (fM 148 (by omega) (by omega) (by omega)) (fM 144 (by omega) (by omega) (by omega)) (by rw [fM 152 (by omega) (by omega) (by omega)]; exact ⟨rfl, rfl, rfl⟩) (f0 7 (by omega) (by omega)) (f0 8 (by omega) (by omega)) (f0 39 (by omega) (by omega)) (fm 5 (by omega) (by omega)) (fun a _ _ => fm a (by omega) (by omega)) (fm 10 (by omega) (by omega)), hP.cg (fM 145 (by omega) (by omega) (by omega)) (fun a _ _ => fm a (by omega) (by omega)), KG.cg hG (fun a _ => fm a (by omega) (by omega))⟩, ⟨hD, hDG⟩, hR.cg (fM 142 (by omega) (by omega) (by omega)) (fM 143 (by omega) (by omega) (by omega)) (fm 1 (by omega) (by omega)) (fm 2 (by omega) (by omega)) (fm 3 (by omega) (by omega)), ⟨hZ.cg (fun j _ => by rw [fM 153 (by omega) (by omega) (by omega)]) (fm 18 (by omega) (by omega)), fun s hs => by rw [fM 153 (by omega) (by omega) (by omega), fm 17 (by omega) (by omega)]; exact hF s hs, fun s hs => by rw [fM 153 (by omega) (by omega) (by omega), fm 4 (by omega) (by omega)]; exact hA s hs⟩, by rw [fM 152 (by omega) (by omega) (by omega), f0 6 (by omega) (by omega)]; exact h2, ?_, ?_, h3⟩
  · simp only [LAN, fM 152 (by omega) (by omega) (by omega), fM 154 (by omega) (by omega) (by omega), f0 75 (by omega) (by omega), f0 76 (by omega) (by omega), fm 56 (by omega) (by omega), f0 78 (by omega) (by omega), f0 79 (by omega) (by omega), f0 80 (by omega) (by omega), f0 81 (by omega) (by omega), f0 82 (by omega) (by omega), f0 55 (by omega) (by omega)]
    exact hLA
  · simp only [STL, fM 155 (by omega) (by omega) (by omega), fM 156 (by omega) (by omega) (by omega), f0 85 (by omega) (by omega), fm 58 (by omega) (by omega), fm 59 (by omega) (by omega), fm 60 (by omega) (by omega), fm 61 (by omega) (by omega), fm 62 (by omega) (by omega), fm 63 (by omega) (by omega)]
    exact hS
theorem LR.dl (h : LR M m t u) : ∃ nS nL nC nO, DL M m nS nL nC nO ∧ DG m nS nL nC nO := by
  obtain ⟨RR, nS, nL, nC, nO, _, ⟨hD, hDG⟩, _⟩ := h
  exact ⟨nS, nL, nC, nO, hD, hDG⟩
theorem DG.at0 (h : DG m nS nL nC nO) (x1 : m 0 22 = nI a) (x2 : m 0 24 = nI b) (x3 : m 0 29 = nI c) (x4 : m 0 34 = nI d) (y1 : a ≤ 4) (y2 : b ≤ 4) (y3 : c ≤ 5) (y4 : d ≤ 4) : DG m a b c d := by
  have h' := h
  obtain ⟨⟨a1, a2⟩, ⟨b1, b2⟩, ⟨c1, c2⟩, ⟨d1, d2⟩, _⟩ := h'
  obtain rfl : nS = a := (nI_eq (by omega) (by omega)).mp (a1.symm.trans x1)
  obtain rfl : nL = b := (nI_eq (by omega) (by omega)).mp (b1.symm.trans x2)
  obtain rfl : nC = c := (nI_eq (by omega) (by omega)).mp (c1.symm.trans x3)
  obtain rfl : nO = d := (nI_eq (by omega) (by omega)).mp (d1.symm.trans x4)
  exact h
/-- a call that changes the draft -/
theorem dCall (hL : LR M m t u) (fM : ∀ a, 142 ≤ a → a ≤ 156 → a ≠ 146 → M1 a = M a) (hO : OUT km t u f g) (hg : g = some (w, n)) (hk0 : n 0 0 = nI (km 0)) (hinj : ∀ k, k ≤ 3 → km k ≤ 3 → (km k = 0 → k = 0) → km k = km 0 → k = 0) (h3 : km 0 ≤ 3) (fm : ∀ a, a ≠ 0 → (a < 19 ∨ 29 < a) → n a = m a) (f0 : ∀ j, j ≠ 0 → (j < 22 ∨ 38 < j) → n 0 j = m 0 j) (hD : DL M1 n nS nL nC nO) (x1 : n 0 22 = nI nS) (x2 : n 0 24 = nI nL) (x3 : n 0 29 = nI nC) (x4 : n 0 34 = nI nO) (y1 : nS ≤ 4) (y2 : nL ≤ 4) (y3 : nC ≤ 5) (y4 : nO ≤ 4) (ht : t < 2 ^ 29) (hu : u < 2 ^ 29) : ∃ M', wr cs' f M1 = some (w, M') ∧ INV M' n t u ∧ ∀ a, 142 ≤ a → M' a = M1 a := by
  obtain ⟨N, t', u', a1, a2, a3, a4, a5, a6⟩ := hO.cl (M1 := M1) (cs := cs') (k0 := 0) hg hk0 hinj h3 (Or.inl rfl)
  have e2 := a2.tt
  have e1 := hL.tt
  have q1 : t' = t := (nI_eq (by omega) (by omega)).mp (e2.1.symm.trans ((f0 8 (by omega) (by omega)).trans e1.1))
  have q2 : u' = u := (nI_eq (by omega) (by omega)).mp (e2.2.symm.trans ((f0 7 (by omega) (by omega)).trans e1.2.1))
  subst q1 q2
  have hR2 : REL (mg M1 N) n t' u' := a2.cgC (fun a ha => mg_c ha)
  obtain ⟨_, nS', nL', nC', nO', _, _, hDG, _⟩ := id a2
  have hDG' := hDG.at0 x1 x2 x3 x4 y1 y2 y3 y4
  exact ⟨mg M1 N, a1, ⟨hL.dr (fun a z1 z2 z3 => by rw [mg_l z1]; exact fM a z1 z2 z3) fm f0 (hD.cg (mg_l (by omega)) (fun _ _ _ => rfl) rfl rfl) hDG' hR2.e3c, hR2⟩, fun a ha => mg_l ha⟩
theorem sc_i (hDG : DG m nS nL nC nO) (h : p1 < 0 ∨ nI nS ≤ p1) : f_X11_isSeatColumn fu p1 p2 m = some 0 := by
  have h3 := hDG.1.2
  simp only [f_X11_isSeatColumn, f_X11_isSeat, bd_some, hDG.1.1, inm1 (x := p1) (k := nS) (by omega), h, if_true]
theorem sc_c (hDG : DG m nS nL nC nO) (hi : i < nS) (hs : s < 6) (es : m 19 i = nI s) (h : p2 < 0 ∨ nI (cs s) ≤ p2) : f_X11_isSeatColumn fu (nI i) p2 m = some 0 := by
  have h3 := hDG.1.2
  have g1 := good (b := nS) (by omega) hi
  simp (disch := omega) only [f_X11_isSeatColumn, f_X11_isSeat, bd_some, hDG.1.1, inm1 (x := nI i) (k := nS) (by omega), g1, if_false, inb_nI, grd_true, nI_clamp, es, isCol0 hs, h, if_true]
theorem sc_k (hDG : DG m nS nL nC nO) (hi : i < nS) (hs : s < 6) (es : m 19 i = nI s) (hc : c < cs s) : f_X11_isSeatColumn fu (nI i) (nI c) m = some 1 := by
  have h3 := hDG.1.2
  have h4 := cs_le (s := s)
  have g1 := good (b := nS) (by omega) hi
  have g2 := good (b := cs s) (by omega) hc
  simp (disch := omega) only [f_X11_isSeatColumn, f_X11_isSeat, bd_some, hDG.1.1, inm1 (x := nI i) (k := nS) (by omega), g1, if_false, inb_nI, grd_true, nI_clamp, es, isCol0 hs, g2]
/-! refused -/
theorem seat_e (h : SM M m M0 m0 t u) (ht : t < 2 ^ 29) (hu : u < 2 ^ 29) (hk : k0 = 1 ∨ k0 = 3) (hv : (if (f_X11_isSource p1) = 0 then (1 : Int32) else (if (m 0 22) = 3 then 2 else 0)) = nI (kmS k0)) : ∃ M' m', f_L_seat fu p1 M = some (ek k0, M') ∧ SM M' m' M0 m0 t u := by
  have hv' : ¬ nI (kmS k0) ≤ 0 := by rcases hk with rfl | rfl <;> decide
  have hx : f_X11_seat fu p1 m = some (0, up m 0 0 (nI (kmS k0))) := by simp only [f_X11_seat, nm_d, hv, up_s, hv', if_false]
  obtain ⟨M', a1, a2⟩ := eC (k0 := k0) (cs := [1, 3]) h (seat_call (fu := fu) (p1 := p1) h.1) hx .up0 (by rw [up_s]) (by rcases hk with rfl | rfl <;> decide) (by rcases hk with rfl | rfl <;> decide) (by rcases hk with rfl | rfl <;> simp) ht hu
  exact ⟨M', _, by rw [if_neg (by omega)] at a1; exact a1, a2⟩
theorem out_e (h : SM M m M0 m0 t u) (ht : t < 2 ^ 29) (hu : u < 2 ^ 29) (hk : k0 = 1 ∨ k0 = 3) (hs : f_X11_isSeatColumn fu p1 p2 m = some v) (hv : (if v = 0 then (1 : Int32) else (if (m 0 34) = 3 then 2 else 0)) = nI (kmS k0)) : ∃ M' m', f_L_out fu p1 p2 M = some (ek k0, M') ∧ SM M' m' M0 m0 t u := by
  have hv' : ¬ nI (kmS k0) ≤ 0 := by rcases hk with rfl | rfl <;> decide
  have hx : f_X11_out fu p1 p2 m = some (0, up m 0 0 (nI (kmS k0))) := by simp only [f_X11_out, hs, bd_some, nm_d, hv, up_s, hv', if_false]
  obtain ⟨M', a1, a2⟩ := eC (k0 := k0) (cs := [1, 3]) h (out_call (fu := fu) (p1 := p1) (p2 := p2) h.1) hx .up0 (by rw [up_s]) (by rcases hk with rfl | rfl <;> decide) (by rcases hk with rfl | rfl <;> decide) (by rcases hk with rfl | rfl <;> simp) ht hu
  exact ⟨M', _, by rw [if_neg (by omega)] at a1; exact a1, a2⟩
def cdv (p3 p4 : Int32) : Int32 := if (f_X11_in p3 0 4) = 0 then 0 else (if 3 ≤ p3 then (if p4 = 0 then 1 else 0) else (if (f_X11_isNumber p4) = 0 then 0 else 1))
theorem where_e (h : SM M m M0 m0 t u) (ht : t < 2 ^ 29) (hu : u < 2 ^ 29) (hk : k0 = 1 ∨ k0 = 2 ∨ k0 = 3) (hs : f_X11_isSeatColumn fu p1 p2 m = some v) (hv : (if v = 0 then (1 : Int32) else (if cdv p3 p4 = 0 then 2 else (if (m 0 29) = 4 then 3 else 0))) = nI k0) : ∃ M' m', f_L_where fu p1 p2 p3 p4 M = some (ek k0, M') ∧ SM M' m' M0 m0 t u := by
  have hv' : ¬ nI k0 ≤ 0 := by rcases hk with rfl | rfl | rfl <;> decide
  have hx : f_X11_where fu p1 p2 p3 p4 m = some (0, up m 0 0 (nI k0)) := by
    have : (if v = 0 then (1 : Int32) else (if (if (f_X11_in p3 0 4) = 0 then (0 : Int32) else (if 3 ≤ p3 then (if p4 = 0 then 1 else 0) else (if (f_X11_isNumber p4) = 0 then 0 else 1))) = 0 then 2 else (if (m 0 29) = 4 then 3 else 0))) = nI k0 := hv
    simp only [f_X11_where, hs, bd_some, nm_d, this, up_s, hv', if_false]
  obtain ⟨M', a1, a2⟩ := eC (k0 := k0) (cs := [1, 2, 3]) h (where_call (fu := fu) (p1 := p1) (p2 := p2) (p3 := p3) (p4 := p4) h.1) hx .up0 (by rw [up_s]; rfl) (by rcases hk with rfl | rfl | rfl <;> decide) (by rcases hk with rfl | rfl | rfl <;> decide) (by rcases hk with rfl | rfl | rfl <;> simp) ht hu
  exact ⟨M', _, by rw [if_neg (by omega)] at a1; exact a1, a2⟩
theorem link_e (h : SM M m M0 m0 t u) (ht : t < 2 ^ 29) (hu : u < 2 ^ 29) (hk : k0 = 1 ∨ k0 = 2 ∨ k0 = 3) (hx : f_X11_link fu p1 p2 p3 p4 m = some (0, up m 0 0 (nI k0))) : ∃ M' m', f_L_link fu p1 p2 p3 p4 M = some (ek k0, M') ∧ SM M' m' M0 m0 t u := by
  obtain ⟨M', a1, a2⟩ := eC (k0 := k0) (cs := [1, 2, 3]) h (link_call (fu := fu) (p1 := p1) (p2 := p2) (p3 := p3) (p4 := p4) h.1) hx .up0 (by rw [up_s]; rfl) (by rcases hk with rfl | rfl | rfl <;> decide) (by rcases hk with rfl | rfl | rfl <;> decide) (by rcases hk with rfl | rfl | rfl <;> simp) ht hu
  exact ⟨M', _, by rw [if_neg (by omega)] at a1; exact a1, a2⟩
theorem xlk1 (h1 : f_X11_isSeatColumn fu p1 p2 m = some 0) : f_X11_link fu p1 p2 p3 p4 m = some (0, up m 0 0 (nI 1)) := by
  simp only [f_X11_link, h1, bd_some, nm_d, jn_d, if_true, up_s, le10, if_false]
  rfl
theorem xlk1' (h1 : f_X11_isSeatColumn fu p1 p2 m = some 1) (h2 : f_X11_isSeatColumn fu p3 p4 m = some 0) : f_X11_link fu p1 p2 p3 p4 m = some (0, up m 0 0 (nI 1)) := by
  simp only [f_X11_link, h1, h2, bd_some, nm_d, jn_d, if_true, up_s, le10, if_false, i10]
  rfl
theorem xlk2 (h1 : f_X11_isSeatColumn fu p1 p2 m = some 1) (h2 : f_X11_isSeatColumn fu p3 p4 m = some 1) (h3 : ¬ p1 < p3) : f_X11_link fu p1 p2 p3 p4 m = some (0, up m 0 0 (nI 2)) := by
  simp only [f_X11_link, h1, h2, h3, bd_some, nm_d, jn_d, up_s, le20, if_false, i10]
  rfl
theorem xlk3 (h1 : f_X11_isSeatColumn fu p1 p2 m = some 1) (h2 : f_X11_isSeatColumn fu p3 p4 m = some 1) (h3 : p1 < p3) (h4 : m 0 24 = 3) : f_X11_link fu p1 p2 p3 p4 m = some (0, up m 0 0 (nI 3)) := by
  simp only [f_X11_link, h1, h2, h3, h4, bd_some, nm_d, jn_d, up_s, le30, if_false, if_true, i10]
  rfl
theorem shape_e (h : SM M m M0 m0 t u) (hb : isb p2 = true) (hv : f_X11_in p1 1 40 = 0) : ∃ M' m', f_L_shape fu p1 p2 M = some (-7200, M') ∧ SM M' m' M0 m0 t u := by
  obtain ⟨k, N, n, a1, a2, a3, a4⟩ := shape_call (fu := fu) (p1 := p1) (p2 := p2) h.1 hb
  have hx : f_X11_shape fu p1 p2 m = some (up m 0 0 1) := by simp only [f_X11_shape, nm_d, hv, if_true, up_s, i10, if_false]
  rw [hx] at a2
  cases a2
  rcases a3 with ⟨rfl, a3⟩ | ⟨rfl, a3⟩
  · rw [up_s] at a3; cases a3
  · exact ⟨mg M N, _, by simp only [f_L_shape, a1, wr]; rfl, a4.cgC (fun a ha => mg_c ha), fun a ha => by rw [mg_l ha]; exact h.2.1 a ha, EQ0.up0.trans h.2.2⟩
end DrL
