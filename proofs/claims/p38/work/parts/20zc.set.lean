/-! ===== settings ===== -/
/-- the class and the reference, the law's arrays standing still -/
def SM (M m M0 m0 : Mem) (t u : Nat) : Prop := REL M m t u ∧ (∀ a, 142 ≤ a → M a = M0 a) ∧ EQ0 m m0
/-- a turn comes out well -/
def RES (x : Option (Int32 × Mem)) (t u : Nat) : Prop := ∃ M' m' t' u', x = some (1, M') ∧ INV M' m' t' u' ∧ t ≤ t' ∧ t' ≤ t + 1500 ∧ u ≤ u' ∧ u' ≤ u + 8
section SetL
variable {fu t u t1 u1 k0 s a b k : Nat} {M m N n M1 M0 m0 : Mem} {w v e p1 p2 p3 : Int32} {km : Nat → Nat} {f : Option XR} {g : Option (Int32 × Mem)} {cs : List Nat}
theorem INV.sm (h : INV M m t u) : SM M m M m t u := ⟨h.2, fun _ _ => rfl, .rfl⟩
theorem SM.inv (h : SM M m M0 m0 t u) (hL : LR M0 m0 t u) : INV M m t u := ⟨hL.cg (fun a z _ => h.2.1 a z) h.2.2 h.1.e3c, h.1⟩
theorem eC (h : SM M m M0 m0 t u) (hO : OUT km t u f g) (hg : g = some (w, n)) (hE : EQ0 n m) (hk0 : n 0 0 = nI (km k0)) (hinj : ∀ k, k ≤ 3 → km k ≤ 3 → (km k = 0 → k = 0) → km k = km k0 → k = k0) (h3 : km k0 ≤ 3) (hcs : k0 = 0 ∨ k0 ∈ cs) (ht : t < 2 ^ 29) (hu : u < 2 ^ 29) : ∃ M', wr cs f M = some (if k0 = 0 then w else ek k0, M') ∧ SM M' n M0 m0 t u := by
  obtain ⟨N, t', u', a1, a2, a3, a4, a5, a6⟩ := hO.cl (M1 := M) (cs := cs) hg hk0 hinj h3 hcs
  have e1 := h.1.tt
  have e2 := a2.tt
  have q1 : t' = t := (nI_eq (by omega) (by omega)).mp (e2.1.symm.trans ((hE.2 8 (by omega)).trans e1.1))
  have q2 : u' = u := (nI_eq (by omega) (by omega)).mp (e2.2.symm.trans ((hE.2 7 (by omega)).trans e1.2))
  subst q1 q2
  exact ⟨mg M N, a1, a2.cgC (fun a ha => mg_c ha), fun a ha => by rw [mg_l ha]; exact h.2.1 a ha, hE.trans h.2.2⟩
theorem eCz (h : SM M m M0 m0 t u) (hO : OUT km t u f g) (hg : g = some (w, n)) (hE : EQ0 n m) (hk0 : n 0 0 = nI (km k0)) (hinj : ∀ k, k ≤ 3 → km k ≤ 3 → (km k = 0 → k = 0) → km k = km k0 → k = k0) (h3 : km k0 ≤ 3) (hcs : k0 = 0 ∨ k0 ∈ cs) (ht : t < 2 ^ 29) (hu : u < 2 ^ 29) : ∃ M', wrz cs f M = some (if k0 = 0 then (if w = 0 then 0 else 1) else ek k0, M') ∧ SM M' n M0 m0 t u := by
  obtain ⟨N, t', u', a1, a2, a3, a4, a5, a6⟩ := hO.clz (M1 := M) (cs := cs) hg hk0 hinj h3 hcs
  have e1 := h.1.tt
  have e2 := a2.tt
  have q1 : t' = t := (nI_eq (by omega) (by omega)).mp (e2.1.symm.trans ((hE.2 8 (by omega)).trans e1.1))
  have q2 : u' = u := (nI_eq (by omega) (by omega)).mp (e2.2.symm.trans ((hE.2 7 (by omega)).trans e1.2))
  subst q1 q2
  exact ⟨mg M N, a1, a2.cgC (fun a ha => mg_c ha), fun a ha => by rw [mg_l ha]; exact h.2.1 a ha, hE.trans h.2.2⟩
/-- a call that is refused, then the rest -/
theorem ech {Fv : Option (Int32 × Mem)} {K : Mem → Option (Int32 × Mem)} (hF : ∃ M' m', Fv = some (e, M') ∧ SM M' m' M0 m0 t u) (hK : ∀ M' m', SM M' m' M0 m0 t u → RES (K M') t1 u1) : RES (bm Fv (fun r M => if r = e then K M else some ((0 : Int32), M))) t1 u1 := by
  obtain ⟨M', m', e1, e2⟩ := hF
  rw [e1, bm_some, if_pos rfl]
  exact hK M' m' e2
theorem lowK {x v : Int32} {j : Nat} {K : Int32 → Option (Int32 × Mem)} (hx : x = nI j) (h0 : 0 < j) (h1 : j < 2 ^ 30) (h : ∀ k, k < j → RES (K (nI k)) t1 u1) : RES (bd (f_L_low fu v x M) K) t1 u1 := by
  subst hx
  obtain ⟨k, h2, h3⟩ := low_eq (fu := fu) (v := v) (n := j) (M := M) h0 h1
  rw [h3, bd_some]
  exact h k h2
theorem jnK {α : Type} {P : α → Prop} {A : α → Option (Int32 × Mem)} {B : (α → Option (Int32 × Mem)) → Option (Int32 × Mem)} (h1 : ∀ v, P v → RES (A v) t1 u1) (h2 : ∀ q : α → Option (Int32 × Mem), (∀ v, P v → RES (q v) t1 u1) → RES (B q) t1 u1) : RES (jn A B) t1 u1 := by
  rw [jn_d]
  exact h2 A h1
theorem RES.if {c : Prop} [Decidable c] {x y : Option (Int32 × Mem)} (h1 : c → RES x t1 u1) (h2 : ¬ c → RES y t1 u1) : RES (if c then x else y) t1 u1 := by
  by_cases h : c
  · rw [if_pos h]; exact h1 h
  · rw [if_neg h]; exact h2 h
theorem RES.ok (h : INV N n t u) : RES (some (1, N)) t u := ⟨N, n, t, u, rfl, h, by omega, by omega, by omega, by omega⟩
theorem LR.set {t' u' : Nat} (h : LR M m t u) (hT : TN N n t' u') (hP : PL N n) (hG : KG n) (hF : FL N n) (fM : ∀ a, a = 142 ∨ a = 143 ∨ a = 146 ∨ (153 < a ∧ a ≤ 156) → N a = M a) (f153 : ∀ j, j < 8 → N 153 j = M 153 j) (f152 : ∀ j, j ≠ 0 → j ≠ 1 → j ≠ 3 → N 152 j = M 152 j) (fm : ∀ a, a ≠ 0 → (a < 5 ∨ 14 < a) → a ≠ 17 → (a < 30 ∨ 41 < a) → n a = m a) (f0 : ∀ j, j ≠ 0 → j ≠ 7 → j ≠ 8 → j ≠ 39 → n 0 j = m 0 j) (h3 : e3 N = true) : LR N n t' u' := by
  obtain ⟨RR, nS, nL, nC, nO, _, ⟨hD, hDG⟩, hR, ⟨hZ, _, hA⟩, h2, hLA, hS, _⟩ := h
  have hDS : DS n m := ⟨fun a z1 z2 => fm a (by omega) (by omega) (by omega) (by omega), fun j z1 z2 => f0 j (by omega) (by omega) (by omega) (by omega)⟩
  refine ⟨RR, nS, nL, nC, nO, ⟨hT, hP, hG⟩, ⟨hD.cg (fM 146 (by omega)) (fun a z1 z2 => hDS.1 a z1 z2) (f0 37 (by omega) (by omega) (by omega) (by omega)) (f0 38 (by omega) (by omega) (by omega) (by omega)), hDG.cg hDS⟩, hR.cg (fM 142 (by omega)) (fM 143 (by omega)) (fm 1 (by omega) (by omega) (by omega) (by omega)) (fm 2 (by omega) (by omega) (by omega) (by omega)) (fm 3 (by omega) (by omega) (by omega) (by omega)), ⟨hZ.cg (fun j hj => f153 j (by omega)) (fm 18 (by omega) (by omega) (by omega) (by omega)), hF, fun s hs => by rw [f153 (6 + s) (by omega), fm 4 (by omega) (by omega) (by omega) (by omega)]; exact hA s hs⟩, by rw [f152 2 (by omega) (by omega) (by omega), f0 6 (by omega) (by omega) (by omega) (by omega)]; exact h2, ?_, ?_, h3⟩
  · simp only [LAN, f152 7 (by omega) (by omega) (by omega), f152 8 (by omega) (by omega) (by omega), f152 9 (by omega) (by omega) (by omega), f152 11 (by omega) (by omega) (by omega), f152 12 (by omega) (by omega) (by omega), f152 13 (by omega) (by omega) (by omega), f152 15 (by omega) (by omega) (by omega), f152 16 (by omega) (by omega) (by omega), fM 154 (by omega), f0 75 (by omega) (by omega) (by omega) (by omega), f0 76 (by omega) (by omega) (by omega) (by omega), fm 56 (by omega) (by omega) (by omega) (by omega), f0 78 (by omega) (by omega) (by omega) (by omega), f0 79 (by omega) (by omega) (by omega) (by omega), f0 80 (by omega) (by omega) (by omega) (by omega), f0 81 (by omega) (by omega) (by omega) (by omega), f0 82 (by omega) (by omega) (by omega) (by omega), f0 55 (by omega) (by omega) (by omega) (by omega)]
    exact hLA
  · simp only [STL, fM 155 (by omega), fM 156 (by omega), f0 85 (by omega) (by omega) (by omega) (by omega), fm 58 (by omega) (by omega) (by omega) (by omega), fm 59 (by omega) (by omega) (by omega) (by omega), fm 60 (by omega) (by omega) (by omega) (by omega), fm 61 (by omega) (by omega) (by omega) (by omega), fm 62 (by omega) (by omega) (by omega) (by omega), fm 63 (by omega) (by omega) (by omega) (by omega)]
    exact hS
theorem isSt (hs : s < 3) : ¬ f_X11_isStore (nI s) = 0 := by rw [isStore0]; exact good (by omega) hs
theorem isSr (hs : s < 6) : ¬ f_X11_isSource (nI s) = 0 := by rw [isSource0]; exact good (by omega) hs
theorem inN {a b c : Nat} (h1 : a ≤ b) (h2 : b ≤ c) (hc : c < 2 ^ 30) : ¬ f_X11_in (nI b) (nI a) (nI c) = 0 := by
  rw [in0, nI_ltI (by omega) (by omega), nI_ltI (by omega) (by omega)]
  omega
theorem xsPE (h : (if (f_X11_isStore p1) = 0 then 1 else (if (f_X11_in p2 0 30) = 0 then 2 else (if (f_X11_in p3 0 60) = 0 then 2 else 0))) = v) (hv : ¬ v ≤ 0) : f_X11_setPace fu p1 p2 p3 m = some (0, up m 0 0 v) := by
  simp only [f_X11_setPace, nm_d, h, up_s, hv, if_false]
theorem xsP (hs : s < 3) (ha : a ≤ 30) (hb : b ≤ 60) : f_X11_setPace fu (nI s) (nI a) (nI b) m = some (m 6 s, up (up (up m 0 0 0) 6 s (nI a)) 7 s (nI b)) := by
  have h2 := inN (a := 0) (b := a) (c := 30) (by omega) ha (by omega)
  have h3 := inN (a := 0) (b := b) (c := 60) (by omega) hb (by omega)
  change ¬ f_X11_in (nI a) 0 30 = 0 at h2
  change ¬ f_X11_in (nI b) 0 60 = 0 at h3
  simp (disch := omega) only [f_X11_setPace, nm_d, isSt hs, h2, h3, if_false, up_s, Int32.le_refl, if_true, inb_nI, grd_true, nI_clamp, up_n]
theorem xsBE (h : (if (f_X11_isStore p1) = 0 then 1 else (if (f_X11_in p2 1 20) = 0 then 2 else (if (f_X11_in p3 0 12) = 0 then 2 else 0))) = v) (hv : ¬ v ≤ 0) : f_X11_setBounds fu p1 p2 p3 m = some (0, up m 0 0 v) := by
  simp only [f_X11_setBounds, nm_d, h, up_s, hv, if_false]
theorem xsB (hs : s < 3) (h1 : 1 ≤ a) (ha : a ≤ 20) (hb : b ≤ 12) : f_X11_setBounds fu (nI s) (nI a) (nI b) m = some (m 8 s, up (up (up m 0 0 0) 8 s (nI a)) 9 s (nI b)) := by
  have h2 := inN (a := 1) (b := a) (c := 20) (by omega) ha (by omega)
  have h3 := inN (a := 0) (b := b) (c := 12) (by omega) hb (by omega)
  change ¬ f_X11_in (nI a) 1 20 = 0 at h2
  change ¬ f_X11_in (nI b) 0 12 = 0 at h3
  simp (disch := omega) only [f_X11_setBounds, nm_d, isSt hs, h2, h3, if_false, up_s, Int32.le_refl, if_true, inb_nI, grd_true, nI_clamp, up_n]
theorem xsLE (h : (if (f_X11_isStore p1) = 0 then 1 else (if (f_X11_in p2 0 200) = 0 then 2 else 0)) = v) (hv : ¬ v ≤ 0) : f_X11_setLease fu p1 p2 m = some (0, up m 0 0 v) := by
  simp only [f_X11_setLease, nm_d, h, up_s, hv, if_false]
theorem xsL (hs : s < 3) (ha : a ≤ 200) (hd : f_X11_drops fu (up (up m 0 0 0) 10 s (nI a)) = some n) : f_X11_setLease fu (nI s) (nI a) m = some (m 10 s, n) := by
  have h2 := inN (a := 0) (b := a) (c := 200) (by omega) ha (by omega)
  change ¬ f_X11_in (nI a) 0 200 = 0 at h2
  simp (disch := omega) only [f_X11_setLease, nm_d, isSt hs, h2, if_false, up_s, Int32.le_refl, if_true, inb_nI, grd_true, nI_clamp, up_n, hd, bd_some]
theorem xsFE (h : (if (f_X11_isStore p1) = 0 then 1 else (if (f_X11_in p2 0 20) = 0 then 2 else 0)) = v) (hv : ¬ v ≤ 0) : f_X11_fail fu p1 p2 p3 m = some (0, up m 0 0 v) := by
  simp only [f_X11_fail, nm_d, h, up_s, hv, if_false]
theorem xsF (hs : s < 3) (ha : a ≤ 20) (hb : isb p3 = true) : f_X11_fail fu (nI s) (nI a) p3 m = some (m 11 s, up (up (up m 0 0 0) 11 s (nI a)) 12 s p3) := by
  have h2 := inN (a := 0) (b := a) (c := 20) (by omega) ha (by omega)
  change ¬ f_X11_in (nI a) 0 20 = 0 at h2
  simp (disch := omega) only [f_X11_fail, nm_d, isSt hs, h2, hb, if_false, up_s, Int32.le_refl, if_true, inb_nI, grd_true, nI_clamp, up_n]
theorem xfoE (h : (if (f_X11_isSource p1) = 0 then 1 else (if (f_X11_isStore p2) = 0 then 1 else 0)) = v) (hv : ¬ v ≤ 0) : f_X11_forbid fu p1 p2 p3 m = some (0, up m 0 0 v) := by
  simp only [f_X11_forbid, nm_d, h, up_s, hv, if_false]
theorem xpaE (h : (if (f_X11_in p1 1 100) = 0 then 1 else 0) = v) (hv : ¬ v ≤ 0) : f_X11_pass fu p1 m = some (0, up m 0 0 v) := by
  simp only [f_X11_pass, nm_d, h, up_s, hv, if_false]
theorem setPace_e (h : SM M m M0 m0 t u) (ht : t < 2 ^ 29) (hu : u < 2 ^ 29) (hk : k0 = 1 ∨ k0 = 2) (hv : (if (f_X11_isStore p1) = 0 then (1 : Int32) else (if (f_X11_in p2 0 30) = 0 then 2 else (if (f_X11_in p3 0 60) = 0 then 2 else 0))) = nI k0) : ∃ M' m', f_L_setPace fu p1 p2 p3 M = some (ek k0, M') ∧ SM M' m' M0 m0 t u := by
  have hv' : ¬ nI k0 ≤ 0 := by rcases hk with rfl | rfl <;> decide
  obtain ⟨M', a1, a2⟩ := eC (k0 := k0) (cs := [1, 2]) h (setPace_call (fu := fu) (p1 := p1) (p2 := p2) (p3 := p3) h.1) (xsPE hv hv') .up0 (by rw [up_s]; rcases hk with rfl | rfl <;> rfl) (by rcases hk with rfl | rfl <;> decide) (by rcases hk with rfl | rfl <;> decide) (by rcases hk with rfl | rfl <;> simp) ht hu
  exact ⟨M', _, by rw [if_neg (by omega)] at a1; exact a1, a2⟩
theorem setBounds_e (h : SM M m M0 m0 t u) (ht : t < 2 ^ 29) (hu : u < 2 ^ 29) (hk : k0 = 1 ∨ k0 = 2) (hv : (if (f_X11_isStore p1) = 0 then (1 : Int32) else (if (f_X11_in p2 1 20) = 0 then 2 else (if (f_X11_in p3 0 12) = 0 then 2 else 0))) = nI k0) : ∃ M' m', f_L_setBounds fu p1 p2 p3 M = some (ek k0, M') ∧ SM M' m' M0 m0 t u := by
  have hv' : ¬ nI k0 ≤ 0 := by rcases hk with rfl | rfl <;> decide
  obtain ⟨M', a1, a2⟩ := eC (k0 := k0) (cs := [1, 2]) h (setBounds_call (fu := fu) (p1 := p1) (p2 := p2) (p3 := p3) h.1) (xsBE hv hv') .up0 (by rw [up_s]; rcases hk with rfl | rfl <;> rfl) (by rcases hk with rfl | rfl <;> decide) (by rcases hk with rfl | rfl <;> decide) (by rcases hk with rfl | rfl <;> simp) ht hu
  exact ⟨M', _, by rw [if_neg (by omega)] at a1; exact a1, a2⟩
theorem setLease_e (hfu : 5000 ≤ fu) (h : SM M m M0 m0 t u) (ht : t < 2 ^ 29) (hu : u < 2 ^ 29) (hk : k0 = 1 ∨ k0 = 2) (hv : (if (f_X11_isStore p1) = 0 then (1 : Int32) else (if (f_X11_in p2 0 200) = 0 then 2 else 0)) = nI k0) : ∃ M' m', f_L_setLease fu p1 p2 M = some (ek k0, M') ∧ SM M' m' M0 m0 t u := by
  have hv' : ¬ nI k0 ≤ 0 := by rcases hk with rfl | rfl <;> decide
  obtain ⟨M', a1, a2⟩ := eC (k0 := k0) (cs := [1, 2]) h (setLease_call (p1 := p1) (p2 := p2) hfu h.1 ht) (xsLE hv hv') .up0 (by rw [up_s]; rcases hk with rfl | rfl <;> rfl) (by rcases hk with rfl | rfl <;> decide) (by rcases hk with rfl | rfl <;> decide) (by rcases hk with rfl | rfl <;> simp) ht hu
  exact ⟨M', _, by rw [if_neg (by omega)] at a1; exact a1, a2⟩
theorem fail_e (h : SM M m M0 m0 t u) (ht : t < 2 ^ 29) (hu : u < 2 ^ 29) (hk : k0 = 1 ∨ k0 = 2) (hb : isb p3 = true) (hv : (if (f_X11_isStore p1) = 0 then (1 : Int32) else (if (f_X11_in p2 0 20) = 0 then 2 else 0)) = nI k0) : ∃ M' m', f_L_fail fu p1 p2 p3 M = some (ek k0, M') ∧ SM M' m' M0 m0 t u := by
  have hv' : ¬ nI k0 ≤ 0 := by rcases hk with rfl | rfl <;> decide
  obtain ⟨M', a1, a2⟩ := eC (k0 := k0) (cs := [1, 2]) h (fail_call (fu := fu) (p1 := p1) (p2 := p2) (p3 := p3) h.1 hb) (xsFE hv hv') .up0 (by rw [up_s]; rcases hk with rfl | rfl <;> rfl) (by rcases hk with rfl | rfl <;> decide) (by rcases hk with rfl | rfl <;> decide) (by rcases hk with rfl | rfl <;> simp) ht hu
  exact ⟨M', _, by rw [if_neg (by omega)] at a1; exact a1, a2⟩
theorem forbid_e (h : SM M m M0 m0 t u) (ht : t < 2 ^ 29) (hu : u < 2 ^ 29) (hb : isb p3 = true) (hv : (if (f_X11_isSource p1) = 0 then (1 : Int32) else (if (f_X11_isStore p2) = 0 then 1 else 0)) = 1) : ∃ M' m', f_L_forbid fu p1 p2 p3 M = some (-7100, M') ∧ SM M' m' M0 m0 t u := by
  obtain ⟨M', a1, a2⟩ := eCz (k0 := 1) (cs := [1]) h (forbid_call (fu := fu) (p1 := p1) (p2 := p2) (p3 := p3) h.1 hb) (xfoE hv (by decide)) .up0 (by rw [up_s]; rfl) (by decide) (by decide) (by decide) ht hu
  exact ⟨M', _, a1, a2⟩
theorem pass_e (hfu : 5000 ≤ fu) (h : SM M m M0 m0 t u) (ht : t < 2 ^ 29) (hu : u < 2 ^ 29) (hv : (if (f_X11_in p1 1 100) = 0 then (1 : Int32) else 0) = 1) : ∃ M' m', f_L_pass fu p1 M = some (-7200, M') ∧ SM M' m' M0 m0 t u := by
  obtain ⟨M', a1, a2⟩ := eC (k0 := 2) (cs := [2]) h (pass_call (p1 := p1) hfu h.1 ht) (xpaE hv (by decide)) .up0 (by rw [up_s]; rfl) (by decide) (by decide) (by decide) ht hu
  exact ⟨M', _, a1, a2⟩
end SetL
