/-! ===== the law, the reference, the class ===== -/
def AD (M m : Mem) : Prop := ∀ s, s < 2 → M 153 (6 + s) = m 4 s
def LAN (M m : Mem) : Prop := ∃ k cols, k ≤ 20 ∧ cols ≤ 3 ∧ (M 152 15 = nI k ∧ m 0 75 = nI k ∧ M 152 16 = nI cols ∧ m 0 76 = nI cols) ∧ (∀ x c, x < k → c < cols → M 154 (3 * x + c) = m 56 (3 * x + c)) ∧ M 152 11 = m 0 78 ∧ M 152 12 = m 0 79 ∧ M 152 7 = m 0 80 ∧ M 152 8 = m 0 81 ∧ M 152 9 = m 0 82 ∧ M 152 13 = m 0 55
def STL (M m : Mem) : Prop := ∃ q, q ≤ 4 ∧ M 156 0 = nI q ∧ m 0 85 = nI q ∧ ∀ i, i < q → M 155 (6 * i) = m 58 i ∧ M 155 (6 * i + 1) = m 59 i ∧ M 155 (6 * i + 2) = m 60 i ∧ M 155 (6 * i + 3) = m 61 i ∧ M 155 (6 * i + 4) = m 62 i ∧ M 155 (6 * i + 5) = m 63 i ∧ (∃ s, s < 6 ∧ m 59 i = nI s) ∧ (m 58 i = 0 ∨ (m 58 i = 1 ∧ ∃ c, c < 4 ∧ m 61 i = nI c) ∨ m 58 i = 2) ∧ (m 58 i ≠ 2 → okc (m 62 i)) ∧ (m 58 i = 0 → okc (m 61 i) ∧ okc (m 63 i))
/-- the law against the reference -/
def LR (M m : Mem) (t u : Nat) : Prop := ∃ RR nS nL nC nO, (TN M m t u ∧ PL M m ∧ KG m) ∧ (DL M m nS nL nC nO ∧ DG m nS nL nC nO) ∧ RLL M m RR ∧ (ZL M m ∧ FL M m ∧ AD M m) ∧ M 152 2 = m 0 6 ∧ LAN M m ∧ STL M m ∧ e3 M = true
def EQ0 (n m : Mem) : Prop := (∀ a, a ≠ 0 → n a = m a) ∧ ∀ j, j ≠ 0 → n 0 j = m 0 j
def EQ1 (n m : Mem) : Prop := (∀ a, a ≠ 0 → (a < 49 ∨ 55 < a) → n a = m a) ∧ ∀ j, j ≠ 0 → j ≠ 68 → j ≠ 69 → j ≠ 71 → n 0 j = m 0 j
/-- all three -/
def INV (M m : Mem) (t u : Nat) : Prop := LR M m t u ∧ REL M m t u
section RelL
variable {fu t u t' u' k0 : Nat} {M m N n M1 : Mem} {w v : Int32} {km : Nat → Nat} {f : Option XR} {g : Option (Int32 × Mem)} {cs : List Nat}
theorem EQ0.rfl : EQ0 m m := ⟨fun _ _ => Eq.refl _, fun _ _ => Eq.refl _⟩
theorem EQ0.trans {p : Mem} (h : EQ0 n p) (h' : EQ0 p m) : EQ0 n m := ⟨fun a ha => by rw [h.1 a ha, h'.1 a ha], fun j hj => by rw [h.2 j hj, h'.2 j hj]⟩
theorem EQ0.up0 {x : Int32} : EQ0 (up m 0 0 x) m := ⟨fun a ha => up_n ha, fun j hj => up_m hj⟩
theorem REL.cgC (h : REL M m t u) (f : ∀ a, a < 142 → N a = M a) : REL N m t u := by
  obtain ⟨RR, nS, nL, nC, nO, ⟨w1, w2, w3, w4, w5, w6⟩, wD, wG, wZ, wF, w121, wL, wB⟩ := h
  refine ⟨RR, nS, nL, nC, nO, ⟨w1.cg (fun a _ _ _ => f a (by omega)) rfl rfl rfl (fun _ _ _ => rfl) (fun _ _ _ => rfl), fun s hs => ⟨(w2 s hs).1.cg (by rw [f _ (by omega)]) (f _ (by omega)) (f _ (by omega)), (w2 s hs).2⟩, w3, by rw [f 58 (by omega)]; exact w4, by rw [f 60 (by omega)]; exact w5, by rw [f 57 (by omega)]; exact w6⟩, wD.cg (fun a _ _ => f a (by omega)) .rfl, wG, wZ.cg (f 59 (by omega)) rfl, wF.cg (f 54 (by omega)) rfl, by rw [f 121 (by omega)]; exact w121, ?_, wB.cg ⟨fun a _ _ => f a (by omega), fun _ _ _ => rfl, rfl⟩⟩
  simp only [LA, f 90 (by omega), f 91 (by omega), f 93 (by omega), f 94 (by omega)]
  exact wL
theorem REL.e3c (h : REL M m t u) : e3 M = true := by
  obtain ⟨RR, nS, nL, nC, nO, ⟨⟨_, _, _, L, hE, _, _⟩, _⟩, _⟩ := h
  obtain ⟨id, hid⟩ : ∃ id : Nat → Nat, IDS M id := by
    obtain ⟨id, h1, _⟩ := hE
    exact ⟨id, h1⟩
  unfold e3
  rw [List.all_eq_true]
  intro j hj
  have hj6 := List.mem_range.mp hj
  obtain ⟨k, hk, he⟩ := hid.1 j hj6
  rw [hid.2.2 j hj6, he, nI_clamp (by omega)]
  simp
  omega
theorem REL.tt (h : REL M m t u) : m 0 8 = nI t ∧ m 0 7 = nI u := by
  obtain ⟨RR, nS, nL, nC, nO, ⟨⟨h1, _⟩, _⟩, _⟩ := h
  exact ⟨h1.2.1, h1.2.2.2⟩
theorem LR.tt (h : LR M m t u) : m 0 8 = nI t ∧ m 0 7 = nI u ∧ M 152 1 = nI t ∧ u < 64 := by
  obtain ⟨RR, nS, nL, nC, nO, ⟨hT, _⟩, _⟩ := h
  exact ⟨hT.1.2.1, hT.1.2.2, hT.1.1, hT.tl.gt.2⟩
theorem LR.cg1 (h : LR M m t u) (f : ∀ a, 142 ≤ a → a ≤ 156 → N a = M a) (g : EQ1 n m) (h3 : e3 N = true) : LR N n t u := by
  obtain ⟨RR, nS, nL, nC, nO, ⟨hT, hP, hG⟩, ⟨hD, hDG⟩, hR, ⟨hZ, hF, hA⟩, h2, hLA, hS, _⟩ := h
  have hDS : DS n m := ⟨fun a z1 z2 => g.1 a (by omega) (by omega), fun j z1 z2 => g.2 j (by omega) (by omega) (by omega) (by omega)⟩
  refine ⟨RR, nS, nL, nC, nO, ⟨hT.cg (f 147 (by omega) (by omega)) (f 148 (by omega) (by omega)) (f 144 (by omega) (by omega)) (by rw [f 152 (by omega) (by omega)]; exact ⟨rfl, rfl, rfl⟩) (g.2 7 (by omega) (by omega) (by omega) (by omega)) (g.2 8 (by omega) (by omega) (by omega) (by omega)) (g.2 39 (by omega) (by omega) (by omega) (by omega)) (g.1 5 (by omega) (by omega)) (fun a _ _ => g.1 a (by omega) (by omega)) (g.1 10 (by omega) (by omega)), hP.cg (f 145 (by omega) (by omega)) (fun a _ _ => g.1 a (by omega) (by omega)), hG.cg (fun a _ => g.1 a (by omega) (by omega))⟩, ⟨hD.cg (f 146 (by omega) (by omega)) (fun a _ _ => g.1 a (by omega) (by omega)) (g.2 37 (by omega) (by omega) (by omega) (by omega)) (g.2 38 (by omega) (by omega) (by omega) (by omega)), hDG.cg hDS⟩, hR.cg (f 142 (by omega) (by omega)) (f 143 (by omega) (by omega)) (g.1 1 (by omega) (by omega)) (g.1 2 (by omega) (by omega)) (g.1 3 (by omega) (by omega)), ⟨hZ.cg (fun j _ => by rw [f 153 (by omega) (by omega)]) (g.1 18 (by omega) (by omega)), fun s hs => by rw [f 153 (by omega) (by omega), g.1 17 (by omega) (by omega)]; exact hF s hs, fun s hs => by rw [f 153 (by omega) (by omega), g.1 4 (by omega) (by omega)]; exact hA s hs⟩, by rw [f 152 (by omega) (by omega), g.2 6 (by omega) (by omega) (by omega) (by omega)]; exact h2, ?_, ?_, h3⟩
  · simp only [LAN, f 152 (by omega) (by omega), f 154 (by omega) (by omega), g.2 75 (by omega) (by omega) (by omega) (by omega), g.2 76 (by omega) (by omega) (by omega) (by omega), g.1 56 (by omega) (by omega), g.2 78 (by omega) (by omega) (by omega) (by omega), g.2 79 (by omega) (by omega) (by omega) (by omega), g.2 80 (by omega) (by omega) (by omega) (by omega), g.2 81 (by omega) (by omega) (by omega) (by omega), g.2 82 (by omega) (by omega) (by omega) (by omega), g.2 55 (by omega) (by omega) (by omega) (by omega)]
    exact hLA
  · simp only [STL, f 155 (by omega) (by omega), f 156 (by omega) (by omega), g.2 85 (by omega) (by omega) (by omega) (by omega), g.1 58 (by omega) (by omega), g.1 59 (by omega) (by omega), g.1 60 (by omega) (by omega), g.1 61 (by omega) (by omega), g.1 62 (by omega) (by omega), g.1 63 (by omega) (by omega)]
    exact hS
theorem EQ0.q1 (h : EQ0 n m) : EQ1 n m := ⟨fun a z _ => h.1 a z, fun j z _ _ _ => h.2 j z⟩
theorem EQ1.rfl : EQ1 m m := EQ0.rfl.q1
theorem EQ1.trans {p : Mem} (h : EQ1 n p) (h' : EQ1 p m) : EQ1 n m := ⟨fun a ha hb => by rw [h.1 a ha hb, h'.1 a ha hb], fun j h1 h2 h3 h4 => by rw [h.2 j h1 h2 h3 h4, h'.2 j h1 h2 h3 h4]⟩
theorem LR.cg (h : LR M m t u) (f : ∀ a, 142 ≤ a → a ≤ 156 → N a = M a) (g : EQ0 n m) (h3 : e3 N = true) : LR N n t u := h.cg1 f g.q1 h3
theorem INV.cgM (h : INV M m t u) (f : ∀ a, a ≤ 156 → N a = M a) : INV N m t u := by
  have h3 : e3 N = true := by rw [e3_cg (f 3 (by omega))]; exact h.2.e3c
  exact ⟨h.1.cg (fun a _ h2 => f a h2) .rfl h3, h.2.cgC (fun a ha => f a (by omega))⟩
theorem mg_l {a : Nat} (h : 142 ≤ a) : mg M N a = M a := by simp only [mg, show ¬ a < 142 by omega, if_false]
theorem mg_c {a : Nat} (h : a < 142) : mg M N a = N a := by simp only [mg, h, if_true]
/-- a call of the class -/
theorem OUT.cl (h : OUT km t u f g) (hg : g = some (w, n)) (hk0 : n 0 0 = nI (km k0)) (hinj : ∀ k, k ≤ 3 → km k ≤ 3 → (km k = 0 → k = 0) → km k = km k0 → k = k0) (h3 : km k0 ≤ 3) (hcs : k0 = 0 ∨ k0 ∈ cs) : ∃ N t' u', wr cs f M1 = some (if k0 = 0 then w else ek k0, mg M1 N) ∧ REL N n t' u' ∧ t ≤ t' ∧ t' ≤ t + 2000 ∧ u ≤ u' ∧ u' ≤ u + 8 := by
  obtain ⟨k, v, N, w', n', t', u', a1, a2, a3, a4, ⟨a5, a6, a7⟩, a8, a9, a10, a11, a12⟩ := h
  rw [hg] at a2
  cases a2
  have hkm : km k = km k0 := by
    rw [hk0] at a3
    exact ((nI_eq (by omega) (by omega)).mp a3).symm
  have hk := hinj k a5 a6 a7 hkm
  subst hk
  refine ⟨N, t', u', ?_, a12, a8, a9, a10, a11⟩
  rw [a1]
  cases k with
  | zero => simp only [wr, if_true]; rw [a4 rfl]
  | succ k =>
    have hm : k + 1 ∈ cs := by
      rcases hcs with h | h
      · omega
      · exact h
    simp only [wr, hm, if_true]
    rw [if_neg (by omega)]
theorem OUT.clz (h : OUT km t u f g) (hg : g = some (w, n)) (hk0 : n 0 0 = nI (km k0)) (hinj : ∀ k, k ≤ 3 → km k ≤ 3 → (km k = 0 → k = 0) → km k = km k0 → k = k0) (h3 : km k0 ≤ 3) (hcs : k0 = 0 ∨ k0 ∈ cs) : ∃ N t' u', wrz cs f M1 = some (if k0 = 0 then (if w = 0 then 0 else 1) else ek k0, mg M1 N) ∧ REL N n t' u' ∧ t ≤ t' ∧ t' ≤ t + 2000 ∧ u ≤ u' ∧ u' ≤ u + 8 := by
  obtain ⟨k, v, N, w', n', t', u', a1, a2, a3, a4, ⟨a5, a6, a7⟩, a8, a9, a10, a11, a12⟩ := h
  rw [hg] at a2
  cases a2
  have hkm : km k = km k0 := by
    rw [hk0] at a3
    exact ((nI_eq (by omega) (by omega)).mp a3).symm
  have hk := hinj k a5 a6 a7 hkm
  subst hk
  refine ⟨N, t', u', ?_, a12, a8, a9, a10, a11⟩
  rw [a1]
  cases k with
  | zero => simp only [wrz, if_true]; rw [a4 rfl]
  | succ k =>
    have hm : k + 1 ∈ cs := by
      rcases hcs with h | h
      · omega
      · exact h
    simp only [wrz, hm, if_true]
    rw [if_neg (by omega)]
/-- what holds where the class has been called, and the law's arrays stand so -/
theorem INV.mk' (hL : LR M1 n t u) (hR : REL N n t' u') (ht : t < 2 ^ 30) (ht' : t' < 2 ^ 30) (hu' : u' < 2 ^ 30) : INV (mg M1 N) n t u := by
  have e1 := hL.tt
  have e2 := hR.tt
  have q1 : t' = t := (nI_eq (by omega) (by omega)).mp (e2.1.symm.trans e1.1)
  have q2 : u' = u := (nI_eq (by omega) (by omega)).mp (e2.2.symm.trans e1.2.1)
  subst q1 q2
  have hR2 : REL (mg M1 N) n t' u' := hR.cgC (fun a ha => mg_c ha)
  exact ⟨hL.cg (fun a h1 _ => mg_l h1) .rfl hR2.e3c, hR2⟩
end RelL
