/-! ===== the groups, in order: the reference ===== -/
def WG (n : Mem) (e : Grp) (p : Nat) : Prop := n 52 (3 * p) = e.1 ∧ n 52 (3 * p + 1) = e.2.1 ∧ n 52 (3 * p + 2) = e.2.2
def rkP (G : List Grp) (v : Int32) (k : Nat) : Bool := match G[k]? with | some e => decide (f_X0_rank e.1 < f_X0_rank v) | none => false
section Ordered
variable {fu a0 q i j x p lim : Nat} {M m N n : Mem} {G Gc Gm : List Grp} {e : Grp} {v : Int32}
theorem ct_cpt {P : Grp → Bool} {Q : Nat → Bool} (hQ : ∀ k e, G[k]? = some e → Q k = P e) : ct Q G.length = cpt P G := by
  have : ∀ k, k ≤ G.length → ct Q k = cpt P (G.take k) := by
    intro k
    induction k with
    | zero => intro _; simp [ct, cpt]
    | succ k ih =>
      intro hk
      obtain ⟨e, he⟩ := gl_ex (L := G) (i := k) (by omega)
      have ht : G.take (k + 1) = G.take k ++ [e] := by
        have hl := gl_lt he
        rw [List.take_succ_eq_append_getElem hl]
        rw [List.getElem?_eq_getElem hl] at he
        cases he
        rfl
      rw [ht, cpt_app, ct, ih (by omega), hQ k e he]
      simp [cpt]
  have h1 := this G.length (Nat.le_refl _)
  rw [List.take_of_length_le (Nat.le_refl _)] at h1
  exact h1
/-- as many are ahead in order as the place tells -/
theorem ahead_c (hS : GSO Gc) (he : Gc[p]? = some e) : cpt (fun e' : Grp => decide (f_X0_rank e'.1 < f_X0_rank e.1)) Gc = p := by
  have hl := gl_lt he
  have hsplit : Gc = Gc.take p ++ Gc.drop p := (List.take_append_drop p Gc).symm
  have h1 : cpt (fun e' : Grp => decide (f_X0_rank e'.1 < f_X0_rank e.1)) (Gc.take p) = (Gc.take p).length := cpt_all (fun a ha => by
    obtain ⟨k, hk⟩ := List.mem_iff_getElem?.mp ha
    have hk2 := gl_lt hk
    simp at hk2
    rw [List.getElem?_take_of_lt (by omega)] at hk
    have := hS k p a e hk he (by omega)
    simp [this])
  have h2 : cpt (fun e' : Grp => decide (f_X0_rank e'.1 < f_X0_rank e.1)) (Gc.drop p) = 0 := cpt_none (fun a ha => by
    obtain ⟨k, hk⟩ := List.mem_iff_getElem?.mp ha
    rw [List.getElem?_drop] at hk
    by_cases hk0 : k = 0
    · subst hk0
      rw [Nat.add_zero, he] at hk
      cases hk
      have : ¬ f_X0_rank e.1 < f_X0_rank e.1 := by grind
      simp [this]
    · have := hS p (p + k) e a he hk (by omega)
      have : ¬ f_X0_rank a.1 < f_X0_rank e.1 := by grind
      simp [this])
  rw [hsplit, cpt_app, h1, h2]
  simp
  omega
theorem aheadL {k83 : Int32 → Option Mem} {g : Nat} (hM : MG m Gm) (hl : Gm.length ≤ 12) (hok : ∀ e ∈ Gm, okc e.1) (hg : Gm[g]? = some e) : ∀ d x k, x + d = Gm.length → d < k → f_X11_makesGroups_L38 fu (nI g) m k83 k (nI (ct (rkP Gm e.1) x)) (nI x) = k83 (nI (ct (rkP Gm e.1) Gm.length)) := by
  have hgl := gl_lt hg
  intro d
  induction d with
  | zero =>
    intro x k h1 h2
    obtain ⟨k, rfl⟩ := fu1 h2
    obtain rfl : x = Gm.length := by omega
    simp (disch := omega) only [f_X11_makesGroups_L38, hM.1, lit, nI_add, pk_mul, pk_sub, nI_clamp, inb_nI, nI_leI, nI_ltI, nI_eq, add_m1, ↓reduceIte, grd_true, nm_d, jn_d, bd_some, bm_some, om_some, om_none, Nat.le_refl]
  | succ d ih =>
    intro x k h1 h2
    obtain ⟨k, rfl⟩ := fu1 h2
    have h3 : ¬ Gm.length ≤ x := by omega
    obtain ⟨e', he'⟩ := gl_ex (L := Gm) (i := x) (by omega)
    have ih' := ih (x + 1) k (by omega) (by omega)
    have hr : rkP Gm e.1 x = decide (f_X0_rank e'.1 < f_X0_rank e.1) := by simp [rkP, he']
    simp only [ct, hr, decide_eq_true_eq] at ih'
    have q1 := (hM.2 g e hg).1
    have q2 := (hM.2 x e' he').1
    have hle : (f_X11_rankOf e.1 ≤ f_X11_rankOf e'.1) = (f_X0_rank e.1 ≤ f_X0_rank e'.1) := propext (rk_lt (hok e (List.mem_of_getElem? hg)) (hok e' (List.mem_of_getElem? he')))
    simp (disch := omega) only [f_X11_makesGroups_L38, hM.1, lit, nI_add, pk_mul, pk_sub, nI_clamp, inb_nI, nI_leI, nI_ltI, nI_eq, add_m1, ↓reduceIte, grd_true, nm_d, jn_d, bd_some, bm_some, om_some, om_none, h3, q1, q2, hle]
    by_cases hlt : f_X0_rank e'.1 < f_X0_rank e.1
    · rw [if_pos hlt] at ih'
      rw [if_neg (Int32.not_le.mpr hlt), nI_add]
      exact ih'
    · rw [if_neg hlt] at ih'
      rw [if_pos (Int32.not_lt.mp hlt), nI_add]
      exact ih'
theorem place25 {k147 : Mem → Option Mem} (hfu : 5000 ≤ fu) (hc : Gc[p]? = some e) (hS : GSO Gc) (hP : ∀ P : Grp → Bool, cpt P Gc = cpt P Gm) (hK : KU Gm) (hl : Gm.length ≤ 12) (hok : ∀ e ∈ Gm, okc e.1) (hp : p < 12) : ∀ d g k (m : Mem), g + d = Gm.length → d < k → MG m Gm → (∃ g', g ≤ g' ∧ Gm[g']? = some e) ∨ (WG m e p ∧ m 0 68 = nI (p + 1)) →
    ∃ N, f_X11_makesGroups_L25 fu (nI p) k147 k (nI g) m = k147 N ∧ WG N e p ∧ N 0 68 = nI (p + 1) ∧ (∀ x, x ≠ 0 → x ≠ 52 → N x = m x) ∧ (∀ j, j ≠ 68 → N 0 j = m 0 j) ∧ ∀ x, x < 3 * p ∨ 3 * p + 2 < x → N 52 x = m 52 x := by
  intro d
  induction d with
  | zero =>
    intro g k m h1 h2 hM hw
    obtain ⟨k, rfl⟩ := fu1 h2
    obtain rfl : g = Gm.length := by omega
    rcases hw with ⟨g', h3, h4⟩ | ⟨h3, h4⟩
    · have := gl_lt h4; omega
    · exact ⟨m, by simp (disch := omega) only [f_X11_makesGroups_L25, hM.1, lit, nI_add, pk_mul, pk_sub, nI_clamp, inb_nI, nI_leI, nI_ltI, nI_eq, add_m1, ↓reduceIte, grd_true, nm_d, jn_d, bd_some, bm_some, om_some, om_none, Nat.le_refl], h3, h4, fun _ _ _ => rfl, fun _ _ => rfl, fun _ _ => rfl⟩
  | succ d ih =>
    intro g k m h1 h2 hM hw
    obtain ⟨k, rfl⟩ := fu1 h2
    have h3 : ¬ Gm.length ≤ g := by omega
    obtain ⟨eg, heg⟩ := gl_ex (L := Gm) (i := g) (by omega)
    -- how many are ahead
    obtain ⟨q, hq⟩ := List.mem_iff_getElem?.mp ((pe_mem hP).mpr (List.mem_of_getElem? heg))
    have hah : ct (rkP Gm eg.1) Gm.length = q := by
      rw [ct_cpt (P := fun e' : Grp => decide (f_X0_rank e'.1 < f_X0_rank eg.1)) (fun k' e' he' => by simp [rkP, he']), ← hP]
      exact ahead_c hS hq
    have hql := gl_lt hq
    have hlen : Gc.length = Gm.length := by rw [← cpt_len, ← cpt_len]; exact hP _
    have eA : ∀ kk : Int32 → Option Mem, f_X11_makesGroups_L38 fu (nI g) m kk fu (nI 0) (nI 0) = kk (nI q) := fun kk => by
      have := aheadL (fu := fu) (k83 := kk) hM hl hok heg Gm.length 0 fu (by omega) (by omega)
      rw [hah] at this
      exact this
    obtain ⟨d1, d2, d3⟩ := hM.2 g eg heg
    have hqp : (nI q = nI p) = (q = p) := propext (nI_eq (by omega) (by omega))
    by_cases hq0 : q = p
    · have hee : eg = e := by
        rw [hq0] at hq
        exact Option.some.inj (hq.symm.trans hc)
      rw [hee] at d1 d2 d3
      have e1 : f_X11_makesGroups_L25 fu (nI p) k147 (k + 1) (nI g) m = f_X11_makesGroups_L25 fu (nI p) k147 k (nI (g + 1)) (up (up (up (up m 52 (3 * p) e.1) 52 (3 * p + 1) e.2.1) 52 (3 * p + 2) e.2.2) 0 68 (nI (p + 1))) := by
        simp (disch := omega) only [f_X11_makesGroups_L25, hM.1, lit, nI_add, pk_mul, pk_sub, nI_clamp, inb_nI, nI_leI, nI_ltI, nI_eq, add_m1, ↓reduceIte, grd_true, nm_d, jn_d, bd_some, bm_some, om_some, om_none, h3, eA, hqp, hq0, up_n, d1, d2, d3]
      obtain ⟨N, y1, y2, y3, y4, y5, y6⟩ := ih (g + 1) k (up (up (up (up m 52 (3 * p) e.1) 52 (3 * p + 1) e.2.1) 52 (3 * p + 2) e.2.2) 0 68 (nI (p + 1))) (by omega) (by omega)
        ⟨by simp (disch := omega) only [up_n, up_m]; exact hM.1, by simp (disch := omega) only [up_n]; exact hM.2⟩
        (Or.inr ⟨⟨by simp (disch := omega) only [up_n, up_m, up_s], by simp (disch := omega) only [up_n, up_m, up_s], by simp (disch := omega) only [up_n, up_s]⟩, up_s⟩)
      refine ⟨N, by rw [e1, y1], y2, y3, fun x z1 z2 => by rw [y4 x z1 z2, up_n z1, up_n z2, up_n z2, up_n z2], fun j hj => by rw [y5 j hj, up_m hj, up_n (by omega), up_n (by omega), up_n (by omega)], fun x hx => by rw [y6 x hx, up_n (by omega), up_m (by omega), up_m (by omega), up_m (by omega)]⟩
    · have e1 : f_X11_makesGroups_L25 fu (nI p) k147 (k + 1) (nI g) m = f_X11_makesGroups_L25 fu (nI p) k147 k (nI (g + 1)) m := by
        simp (disch := omega) only [f_X11_makesGroups_L25, hM.1, lit, nI_add, pk_mul, pk_sub, nI_clamp, inb_nI, nI_leI, nI_ltI, nI_eq, add_m1, ↓reduceIte, grd_true, nm_d, jn_d, bd_some, bm_some, om_some, om_none, h3, eA, hqp, hq0]
      have hw' : (∃ g', g + 1 ≤ g' ∧ Gm[g']? = some e) ∨ (WG m e p ∧ m 0 68 = nI (p + 1)) := by
        rcases hw with ⟨g', h4, h5⟩ | h4
        · by_cases hgg : g' = g
          · exfalso
            rw [hgg] at h5
            have hee : eg = e := Option.some.inj (heg.symm.trans h5)
            rw [hee] at hq
            rcases Nat.lt_trichotomy q p with h6 | h6 | h6
            · have := hS q p e e hq hc h6; grind
            · exact hq0 h6
            · have := hS p q e e hc hq h6; grind
          · exact Or.inl ⟨g', by omega, h5⟩
        · exact Or.inr h4
      obtain ⟨N, y1, y2⟩ := ih (g + 1) k m (by omega) (by omega) hM hw'
      exact ⟨N, by rw [e1, y1], y2⟩
theorem places7 (hfu : 5000 ≤ fu) (hS : GSO Gc) (hP : ∀ P : Grp → Bool, cpt P Gc = cpt P Gm) (hK : KU Gm) (hl : Gm.length ≤ 12) (hok : ∀ e ∈ Gm, okc e.1) (hlim : lim ≤ 40) : ∀ d p k (m : Mem), p + d = min Gm.length lim → d < k → MG m Gm → m 0 37 = nI lim → m 0 68 = nI p → (∀ x e, x < p → Gc[x]? = some e → WG m e x) →
    ∃ N, f_X11_makesGroups_L7 fu k (nI p) m = some N ∧ N 0 68 = nI (min Gm.length lim) ∧ (∀ x e, x < min Gm.length lim → Gc[x]? = some e → WG N e x) ∧ (∀ x, x ≠ 0 → x ≠ 52 → N x = m x) ∧ (∀ j, j ≠ 68 → N 0 j = m 0 j) := by
  intro d
  induction d with
  | zero =>
    intro p k m h1 h2 hM h37 h68 hw
    obtain ⟨k, rfl⟩ := fu1 h2
    have hpe : p = min Gm.length lim := by omega
    refine ⟨m, ?_, by rw [← hpe]; exact h68, by rw [← hpe]; exact hw, fun _ _ _ => rfl, fun _ _ => rfl⟩
    by_cases h3 : Gm.length ≤ p
    · simp (disch := omega) only [f_X11_makesGroups_L7, hM.1, lit, nI_add, pk_mul, pk_sub, nI_clamp, inb_nI, nI_leI, nI_ltI, nI_eq, add_m1, ↓reduceIte, grd_true, nm_d, jn_d, bd_some, bm_some, om_some, om_none, h3]
    · have h4 : lim ≤ p := by omega
      simp (disch := omega) only [f_X11_makesGroups_L7, hM.1, lit, nI_add, pk_mul, pk_sub, nI_clamp, inb_nI, nI_leI, nI_ltI, nI_eq, add_m1, ↓reduceIte, grd_true, nm_d, jn_d, bd_some, bm_some, om_some, om_none, h3, h37, h4]
  | succ d ih =>
    intro p k m h1 h2 hM h37 h68 hw
    obtain ⟨k, rfl⟩ := fu1 h2
    have h3 : ¬ Gm.length ≤ p := by omega
    have h4 : ¬ lim ≤ p := by omega
    have hlen : Gc.length = Gm.length := by rw [← cpt_len, ← cpt_len]; exact hP _
    obtain ⟨e, he⟩ := gl_ex (L := Gc) (i := p) (by omega)
    obtain ⟨g', hg'⟩ := List.mem_iff_getElem?.mp ((pe_mem hP).mp (List.mem_of_getElem? he))
    obtain ⟨P, y1, y2, y3, y4, y5, y6⟩ := place25 (fu := fu) (k147 := fun (M_7 : Mem) => f_X11_makesGroups_L7 fu k (nI (p + 1)) M_7) hfu he hS hP hK hl hok (by omega) Gm.length 0 fu m (by omega) (by omega) hM (Or.inl ⟨g', Nat.zero_le _, hg'⟩)
    have e1 : f_X11_makesGroups_L7 fu (k + 1) (nI p) m = f_X11_makesGroups_L7 fu k (nI (p + 1)) P := by
      rw [← y1]
      simp (disch := omega) only [f_X11_makesGroups_L7, hM.1, lit, nI_add, pk_mul, pk_sub, nI_clamp, inb_nI, nI_leI, nI_ltI, nI_eq, add_m1, ↓reduceIte, grd_true, nm_d, jn_d, bd_some, bm_some, om_some, om_none, h3, h37, h4]
    have hM' : MG P Gm := ⟨by rw [y5 71 (by omega)]; exact hM.1, by rw [y4 53 (by omega) (by omega), y4 54 (by omega) (by omega), y4 55 (by omega) (by omega)]; exact hM.2⟩
    obtain ⟨N, z1, z2, z3, z4, z5⟩ := ih (p + 1) k P (by omega) (by omega) hM' (by rw [y5 37 (by omega)]; exact h37) y3 (fun x e' hx he' => by
      by_cases hxp : x = p
      · rw [hxp] at he' ⊢
        have : e' = e := Option.some.inj (he'.symm.trans he)
        rw [this]
        exact y2
      · have := hw x e' (by omega) he'
        simp only [WG] at this ⊢
        rw [y6 _ (by omega), y6 _ (by omega), y6 _ (by omega)]
        exact this)
    exact ⟨N, by rw [e1, z1], z2, z3, fun x w1 w2 => by rw [z4 x w1 w2, y4 x w1 w2], fun j hj => by rw [z5 j hj, y5 j hj]⟩
theorem makesG_ok (hfu : 5000 ≤ fu) (hS : GSO Gc) (hP : ∀ P : Grp → Bool, cpt P Gc = cpt P Gm) (hK : KU Gm) (hl : Gm.length ≤ 12) (hok : ∀ e ∈ Gm, okc e.1) (hlim : lim ≤ 40) (hM : MG m Gm) (h37 : m 0 37 = nI lim) : ∃ N, f_X11_makesGroups fu m = some N ∧ N 0 68 = nI (min Gm.length lim) ∧ (∀ x e, x < min Gm.length lim → Gc[x]? = some e → WG N e x) ∧ (∀ x, x ≠ 0 → x ≠ 52 → N x = m x) ∧ (∀ j, j ≠ 68 → N 0 j = m 0 j) := by
  obtain ⟨N, z1, z2, z3, z4, z5⟩ := places7 (fu := fu) (Gc := Gc) (m := up m 0 68 0) hfu hS hP hK hl hok hlim (min Gm.length lim) 0 fu (by omega) (by omega) ⟨by rw [up_m (by omega)]; exact hM.1, by rw [up_n (by omega), up_n (by omega), up_n (by omega)]; exact hM.2⟩ (by rw [up_m (by omega)]; exact h37) up_s (fun x e hx => by omega)
  exact ⟨N, z1, z2, z3, fun x w1 w2 => by rw [z4 x w1 w2, up_n w1], fun j hj => by rw [z5 j hj, up_m hj]⟩
end Ordered
