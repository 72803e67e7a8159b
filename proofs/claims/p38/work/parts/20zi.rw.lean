/-! ===== rows are written: the law, the reference ===== -/
section RwL
variable {fu t u s i j p c k : Nat} {M m N n P : Mem} {RR RR' : Nat → List Row} {R : List Row} {r : Row} {v x a b d : Int32}
theorem LR.rw (h : LR M m t u) (fM : ∀ a, 144 ≤ a → a ≤ 156 → a ≠ 152 → a ≠ 153 → N a = M a) (f152 : ∀ j, j ≠ 2 → N 152 j = M 152 j) (f153 : ∀ j, (j < 6 ∨ 8 ≤ j) → N 153 j = M 153 j) (fm : ∀ a, 4 < a → n a = m a) (f0 : ∀ j, j ≠ 0 → j ≠ 6 → n 0 j = m 0 j) (hR : RLL N n RR') (hA : AD N n) (h2 : N 152 2 = n 0 6) (h3 : e3 N = true) : LR N n t u := by
  obtain ⟨RR, nS, nL, nC, nO, ⟨hT, hP, hG⟩, ⟨hD, hDG⟩, _, ⟨hZ, hF, _⟩, _, hLA, hS, _⟩ := h
  have hDS : DS n m := ⟨fun a z1 z2 => fm a (by omega), fun j z1 z2 => f0 j (by omega) (by omega)⟩
  refine ⟨RR', nS, nL, nC, nO, ⟨hT.cg (fM 147 (by omega) (by omega) (by omega) (by omega)) (fM 148 (by omega) (by omega) (by omega) (by omega)) (fM 144 (by omega) (by omega) (by omega) (by omega)) ⟨f152 0 (by omega), f152 1 (by omega), f152 3 (by omega)⟩ (f0 7 (by omega) (by omega)) (f0 8 (by omega) (by omega)) (f0 39 (by omega) (by omega)) (fm 5 (by omega)) (fun a _ _ => fm a (by omega)) (fm 10 (by omega)), hP.cg (fM 145 (by omega) (by omega) (by omega) (by omega)) (fun a _ _ => fm a (by omega)), KG.cg hG (fun a _ => fm a (by omega))⟩, ⟨hD.cg (fM 146 (by omega) (by omega) (by omega) (by omega)) (fun a z1 z2 => hDS.1 a z1 z2) (f0 37 (by omega) (by omega)) (f0 38 (by omega) (by omega)), hDG.cg hDS⟩, hR, ⟨hZ.cg (fun j hj => f153 j (by omega)) (fm 18 (by omega)), fun s hs => by rw [f153 (8 + s) (by omega), fm 17 (by omega)]; exact hF s hs, hA⟩, h2, ?_, ?_, h3⟩
  · simp only [LAN, f152 7 (by omega), f152 8 (by omega), f152 9 (by omega), f152 11 (by omega), f152 12 (by omega), f152 13 (by omega), f152 15 (by omega), f152 16 (by omega), fM 154 (by omega) (by omega) (by omega) (by omega), f0 75 (by omega) (by omega), f0 76 (by omega) (by omega), fm 56 (by omega), f0 78 (by omega) (by omega), f0 79 (by omega) (by omega), f0 80 (by omega) (by omega), f0 81 (by omega) (by omega), f0 82 (by omega) (by omega), f0 55 (by omega) (by omega)]
    exact hLA
  · simp only [STL, fM 155 (by omega) (by omega) (by omega) (by omega), fM 156 (by omega) (by omega) (by omega) (by omega), f0 85 (by omega) (by omega), fm 58 (by omega), fm 59 (by omega), fm 60 (by omega), fm 61 (by omega), fm 62 (by omega), fm 63 (by omega)]
    exact hS
theorem LR.rest (h : LR M m t u) : AD M m ∧ M 152 2 = m 0 6 ∧ ∃ RR, RLL M m RR := by
  obtain ⟨RR, nS, nL, nC, nO, _, _, hR, ⟨_, _, hA⟩, h2, _⟩ := h
  exact ⟨hA, h2, RR, hR⟩
/-- what is said of a source's write -/
theorem LR.wrt (hfu : 5000 ≤ fu) (h : LR M m t u) (hs : s < 6) (ht : t < 2 ^ 26) (hu : u < 62) : ∃ N n, f_L_written fu (nI s) M = some N ∧ f_X11_writes fu (nI s) m = some n ∧ LR N n t (u + 1) ∧ (∀ a, a ≠ 144 → a ≠ 147 → a ≠ 148 → a ≠ 152 → N a = M a) ∧ n 0 0 = m 0 0 ∧ (∀ a, 0 < a → a ≠ 5 → (a < 30 ∨ 41 < a) → n a = m a) ∧ (∀ j, j ≠ 7 → j ≠ 39 → n 0 j = m 0 j) ∧ (∀ RR, RLL M m RR → RLL N n RR) ∧ ∀ j, j ≠ 0 → j ≠ 3 → N 152 j = M 152 j := by
  obtain ⟨hP, hG, hT, hF⟩ := h.pl
  obtain ⟨N, n, e1, e2, e3', e4, e5, e6, e7⟩ := written_L hfu hT.tl hP hG hs ht hu
  have h3 : e3 N = true := by rw [e3_cg (e5.1 3 (by omega) (by omega) (by omega) (by omega))]; exact h.e3c
  have hr : ∀ RR, RLL M m RR → RLL N n RR := fun RR hR => hR.cg (e5.1 142 (by omega) (by omega) (by omega) (by omega)) (e5.1 143 (by omega) (by omega) (by omega) (by omega)) (e7 1 (by omega) (by omega) (by omega)) (e7 2 (by omega) (by omega) (by omega)) (e7 3 (by omega) (by omega) (by omega))
  refine ⟨N, n, e1, e2, ?_, e5.1, e6 0 (by omega) (by omega), e7, e6, hr, e5.2⟩
  obtain ⟨RR, nS, nL, nC, nO, _, ⟨hD, hDG⟩, hR, ⟨hZ, _, hA⟩, h2, hLA, hS, _⟩ := h
  have hDS : DS n m := ⟨fun a z1 z2 => e7 a (by omega) (by omega) (by omega), fun j z1 z2 => e6 j (by omega) (by omega)⟩
  refine ⟨RR, nS, nL, nC, nO, ⟨e3', e4, KG.cg hG (fun a ha => e7 a (by omega) (by omega) (by omega))⟩, ⟨hD.cg (e5.1 146 (by omega) (by omega) (by omega) (by omega)) (fun a z1 z2 => hDS.1 a z1 z2) (e6 37 (by omega) (by omega)) (e6 38 (by omega) (by omega)), hDG.cg hDS⟩, hr RR hR, ⟨hZ.cg (fun j _ => by rw [e5.1 153 (by omega) (by omega) (by omega) (by omega)]) (e7 18 (by omega) (by omega) (by omega)), fun s hs => by rw [e5.1 153 (by omega) (by omega) (by omega) (by omega), e7 17 (by omega) (by omega) (by omega)]; exact hF s hs, fun s hs => by rw [e5.1 153 (by omega) (by omega) (by omega) (by omega), e7 4 (by omega) (by omega) (by omega)]; exact hA s hs⟩, by rw [e5.2 2 (by omega) (by omega), e6 6 (by omega) (by omega)]; exact h2, ?_, ?_, h3⟩
  · simp only [LAN, e5.2 7 (by omega) (by omega), e5.2 8 (by omega) (by omega), e5.2 9 (by omega) (by omega), e5.2 11 (by omega) (by omega), e5.2 12 (by omega) (by omega), e5.2 13 (by omega) (by omega), e5.2 15 (by omega) (by omega), e5.2 16 (by omega) (by omega), e5.1 154 (by omega) (by omega) (by omega) (by omega), e6 75 (by omega) (by omega), e6 76 (by omega) (by omega), e7 56 (by omega) (by omega) (by omega), e6 78 (by omega) (by omega), e6 79 (by omega) (by omega), e6 80 (by omega) (by omega), e6 81 (by omega) (by omega), e6 82 (by omega) (by omega), e6 55 (by omega) (by omega)]
    exact hLA
  · simp only [STL, e5.1 155 (by omega) (by omega) (by omega) (by omega), e5.1 156 (by omega) (by omega) (by omega) (by omega), e6 85 (by omega) (by omega), e7 58 (by omega) (by omega) (by omega), e7 59 (by omega) (by omega) (by omega), e7 60 (by omega) (by omega) (by omega), e7 61 (by omega) (by omega) (by omega), e7 62 (by omega) (by omega) (by omega), e7 63 (by omega) (by omega) (by omega)]
    exact hS
/-- losses -/
theorem LR.los (h : LR M m t u) (hR : RLL M m RR) : LR (up M 152 2 (M 152 2 + x)) (up m 0 6 (m 0 6 + x)) t u ∧ RLL (up M 152 2 (M 152 2 + x)) (up m 0 6 (m 0 6 + x)) RR := by
  obtain ⟨hA, h2, _⟩ := h.rest
  have hR' : RLL (up M 152 2 (M 152 2 + x)) (up m 0 6 (m 0 6 + x)) RR := hR.cg (up_n (by omega)) (up_n (by omega)) (up_n (by omega)) (up_n (by omega)) (up_n (by omega))
  exact ⟨h.rw (fun a _ _ z _ => up_n z) (fun j hj => up_m hj) (fun j _ => by rw [up_n (by omega)]) (fun a ha => up_n (by omega)) (fun j _ hj => up_m hj) hR' (fun s hs => by rw [up_n (by omega), up_n (by omega)]; exact hA s hs) (by rw [up_s, up_s, h2]) (by rw [e3_cg (up_n (by omega))]; exact h.e3c), hR'⟩
/-- one more is added -/
theorem LR.cnt (h : LR M m t u) (hR : RLL M m RR) (hs : s < 2) : LR (up M 153 (6 + s) (M 153 (6 + s) + 1)) (up m 4 s (m 4 s + 1)) t u ∧ RLL (up M 153 (6 + s) (M 153 (6 + s) + 1)) (up m 4 s (m 4 s + 1)) RR := by
  obtain ⟨hA, h2, _⟩ := h.rest
  have hR' : RLL (up M 153 (6 + s) (M 153 (6 + s) + 1)) (up m 4 s (m 4 s + 1)) RR := hR.cg (up_n (by omega)) (up_n (by omega)) (up_n (by omega)) (up_n (by omega)) (up_n (by omega))
  refine ⟨h.rw (fun a _ _ _ z => up_n z) (fun j hj => by rw [up_n (by omega)]) (fun j _ => up_m (by omega)) (fun a ha => up_n (by omega)) (fun j _ hj => by rw [up_n (by omega)]) hR' (fun s' hs' => ?_) (by rw [up_n (by omega), up_n (by omega), h2]) (by rw [e3_cg (up_n (by omega))]; exact h.e3c), hR'⟩
  by_cases z : s' = s
  · subst z; rw [up_s, up_s, hA s' hs']
  · rw [up_m (by omega), up_m z]; exact hA s' hs'
theorem RLL.set (h : RLL M m RR) (hs : s < 6) (h1 : RWl N s R) (h2 : RM n s R) (h3 : okW R) (h4 : ∀ s', s' < 6 → s' ≠ s → RWl N s' (RR s') ∧ RM n s' (RR s')) : RLL N n (setR RR s R) := fun s' hs' => by
  by_cases z : s' = s
  · subst z; rw [setR_s]; exact ⟨h1, h2, h3⟩
  · rw [setR_n z]; exact ⟨(h4 s' hs' z).1, (h4 s' hs' z).2, (h s' hs').2.2⟩
/-- a row is laid -/
theorem LR.lay (hfu : 5000 ≤ fu) (h : LR M m t u) (hR : RLL M m RR) (hs : s < 6) (hl : (RR s).length < 10) (hm : okm r.1) (hr : ∀ c, c < 4 → okc (cel r c)) : ∃ N, f_L_lay fu 142 60 143 6 (nI s) (pk r) M = some N ∧ LR N (minsM m s (RR s) r) t u ∧ RLL N (minsM m s (RR s) r) (setR RR s (insR (RR s) r)) ∧ ∀ a, a ≠ 142 → a ≠ 143 → N a = M a := by
  obtain ⟨hA, h2, _⟩ := h.rest
  obtain ⟨q1, q2, q3⟩ := hR s hs
  obtain ⟨N, e1, e2⟩ := lay_ok (fu := fu) (a0 := 142) (l0 := 60) (a1 := 143) (l1 := 6) (M := M) hfu hs (by omega) (by omega) (by omega) (by omega) (by omega) q1 q3 hl hm hr
  have f : ∀ a, a ≠ 142 → a ≠ 143 → N a = M a := fun a z1 z2 => e2.n z1 z2
  have g : ∀ i, i ≠ 1 ∧ i ≠ 2 ∧ i ≠ 3 → minsM m s (RR s) r i = m i := fun i hi => minsM_n hi
  have hR' : RLL N (minsM m s (RR s) r) (setR RR s (insR (RR s) r)) := hR.set hs e2.1 (minsM_RM q2 (by omega)) (ins_okW q3 hm hr) (fun s' hs' z => ⟨e2.o z (hR s' hs').1, minsM_RM' (hR s' hs').2.1 z (by omega)⟩)
  exact ⟨N, e1, h.rw (fun a _ _ z1 z2 => f a (by omega) (by omega)) (fun j hj => by rw [f 152 (by omega) (by omega)]) (fun j _ => by rw [f 153 (by omega) (by omega)]) (fun a ha => g a ⟨by omega, by omega, by omega⟩) (fun j _ hj => by rw [g 0 ⟨by omega, by omega, by omega⟩]) hR' (fun s' hs' => by rw [f 153 (by omega) (by omega), g 4 ⟨by omega, by omega, by omega⟩]; exact hA s' hs') (by rw [f 152 (by omega) (by omega), g 0 ⟨by omega, by omega, by omega⟩]; exact h2) (by rw [e3_cg (f 3 (by omega) (by omega))]; exact h.e3c), hR', f⟩
/-- a row is lifted out -/
theorem LR.rem (hfu : 5000 ≤ fu) (h : LR M m t u) (hR : RLL M m RR) (hs : s < 6) (hp : p < (RR s).length) : ∃ N, f_L_lift fu (nI s) (nI p) M = some N ∧ LR N (mdelM m s (RR s) p) t u ∧ RLL N (mdelM m s (RR s) p) (setR RR s ((RR s).eraseIdx p)) ∧ ∀ a, a ≠ 142 → a ≠ 143 → N a = M a := by
  obtain ⟨hA, h2, _⟩ := h.rest
  obtain ⟨q1, q2, q3⟩ := hR s hs
  obtain ⟨N, e1, e2⟩ := lift_ok (fu := fu) (M := M) hfu hs q1 hp
  have f : ∀ a, a ≠ 142 → a ≠ 143 → N a = M a := fun a z1 z2 => e2.2.1 a z1 z2
  have g : ∀ i, i ≠ 1 ∧ i ≠ 2 ∧ i ≠ 3 → mdelM m s (RR s) p i = m i := fun i hi => mdelM_n hi
  have hR' : RLL N (mdelM m s (RR s) p) (setR RR s ((RR s).eraseIdx p)) := hR.set hs e2.1 (mdelM_RM q2 hp) (del_okW q3) (fun s' hs' z => ⟨e2.o z (hR s' hs').1, mdelM_RM' (hR s' hs').2.1 z (by have := q2.2.1; omega) hp⟩)
  exact ⟨N, e1, h.rw (fun a _ _ z1 z2 => f a (by omega) (by omega)) (fun j hj => by rw [f 152 (by omega) (by omega)]) (fun j _ => by rw [f 153 (by omega) (by omega)]) (fun a ha => g a ⟨by omega, by omega, by omega⟩) (fun j _ hj => by rw [g 0 ⟨by omega, by omega, by omega⟩]) hR' (fun s' hs' => by rw [f 153 (by omega) (by omega), g 4 ⟨by omega, by omega, by omega⟩]; exact hA s' hs') (by rw [f 152 (by omega) (by omega), g 0 ⟨by omega, by omega, by omega⟩]; exact h2) (by rw [e3_cg (f 3 (by omega) (by omega))]; exact h.e3c), hR', f⟩
/-- a cell is put -/
theorem LR.put (h : LR M m t u) (hR : RLL M m RR) (hs : s < 6) (hp : (RR s)[p]? = some r) (hc : c < 4) (hv : okc v) : f_L_with (lg (M 142) (10 * s + p)) (nI c) v = pk (setc r c v) ∧ LR (upL M 142 (10 * s + p) (pk (setc r c v))) (up m 3 (4 * (12 * s + p) + c) v) t u ∧ RLL (upL M 142 (10 * s + p) (pk (setc r c v))) (up m 3 (4 * (12 * s + p) + c) v) (setR RR s ((RR s).set p (setc r c v))) := by
  obtain ⟨hA, h2, _⟩ := h.rest
  obtain ⟨q1, q2, q3⟩ := hR s hs
  obtain ⟨e1, e2⟩ := set_ok (p := p) (c := c) q1 q3 hp hc hv
  have hp10 : p < 10 := by have := gl_lt hp; have := q1.2.1; omega
  have f : ∀ a, a ≠ 142 → upL M 142 (10 * s + p) (pk (setc r c v)) a = M a := fun a z1 => upL_n z1
  have g : ∀ i, i ≠ 3 → up m 3 (4 * (12 * s + p) + c) v i = m i := fun i hi => up_n hi
  have hR' : RLL (upL M 142 (10 * s + p) (pk (setc r c v))) (up m 3 (4 * (12 * s + p) + c) v) (setR RR s ((RR s).set p (setc r c v))) := hR.set hs e2 (RM_set q2 hp hc) (set_okW q3 hp hv) (fun s' hs' z => ⟨set_o z hp10 (hR s' hs').1, RM_set' (hR s' hs').2.1 z (by omega) hc⟩)
  exact ⟨e1, h.rw (fun a _ _ z1 z2 => f a (by omega)) (fun j hj => by rw [f 152 (by omega)]) (fun j _ => by rw [f 153 (by omega)]) (fun a ha => g a (by omega)) (fun j _ hj => by rw [g 0 (by omega)]) hR' (fun s' hs' => by rw [f 153 (by omega), g 4 (by omega)]; exact hA s' hs') (by rw [f 152 (by omega), g 0 (by omega)]; exact h2) (by rw [e3_cg (f 3 (by omega))]; exact h.e3c), hR'⟩
theorem INV.wr (h : INV M m t u) : ∃ RR, RLL M m RR ∧ WR M m t u RR := by
  obtain ⟨_, _, RR, hR⟩ := h.1.rest
  obtain ⟨RR', _, _, _, _, hW, _⟩ := id h.2
  refine ⟨RR', fun s hs => ?_, hW⟩
  have := RM_inj (hR s hs).2.1 (hW.2.1 s hs).2
  rw [← this]
  exact hR s hs
end RwL
