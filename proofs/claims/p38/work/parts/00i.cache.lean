/-! ===== entries of the cache ===== -/
abbrev Con : Type := Nat × Int32 × Int32
abbrev Ent : Type := Nat × Int32 × Int32 × Option Int32 × Option Int32 × List Con × List Row
def nv (o : Option Int32) : Int32 := o.getD 2147483647
def nn (o : Option Int32) : Int32 := o.getD (-1)
def CV (f g h : Nat → Int32) (C : List Con) : Prop := ∀ i c, C[i]? = some c → f i = nI c.1 ∧ g i = c.2.1 ∧ h i = c.2.2
def EC1 (M : Mem) (a : Nat) (E : Ent) : Prop :=
  (M a 5 = nI E.1 ∧ E.1 < 6 ∧ M a 6 = nI (E.1 / 2) ∧ M a 7 = E.2.1 ∧ M a 8 = E.2.2.1 ∧ M a 9 = nv E.2.2.2.1 ∧ M a 10 = nv E.2.2.2.2.1) ∧ RC M (a + 1) E.2.2.2.2.2.2 ∧ M a 4 = nI E.2.2.2.2.2.1.length ∧ E.2.2.2.2.2.1.length ≤ 4 ∧ CV (M (a + 4)) (M (a + 5)) (M (a + 6)) E.2.2.2.2.2.1
def kid (a : Nat) : Prop := ∃ k, k < 6 ∧ a = 6 + 7 * k
def IDS (M : Mem) (id : Nat → Nat) : Prop := (∀ j, j < 6 → kid (id j)) ∧ (∀ i j, i < 6 → j < 6 → id i = id j → i = j) ∧ ∀ j, j < 6 → M 3 j = nI (id j)
def ECi (M : Mem) (id : Nat → Nat) (L : List Ent) : Prop := IDS M id ∧ M 2 4 = nI L.length ∧ L.length ≤ 6 ∧ ∀ j E, L[j]? = some E → EC1 M (id j) E
def EC (M : Mem) (L : List Ent) : Prop := ∃ id, ECi M id L
def EM1 (M : Mem) (e : Nat) (E : Ent) : Prop :=
  (M 30 e = nI E.1 ∧ E.1 < 6 ∧ M 31 e = E.2.1 ∧ M 32 e = E.2.2.1 ∧ M 33 e = nn E.2.2.2.1 ∧ M 34 e = nn E.2.2.2.2.1) ∧ (M 35 e = nI E.2.2.2.2.2.2.length ∧ E.2.2.2.2.2.2.length ≤ 12 ∧ RV (off (M 36) (12 * e)) (off (M 37) (48 * e)) E.2.2.2.2.2.2) ∧ M 38 e = nI E.2.2.2.2.2.1.length ∧ E.2.2.2.2.2.1.length ≤ 4 ∧ CV (off (M 39) (4 * e)) (off (M 40) (4 * e)) (off (M 41) (4 * e)) E.2.2.2.2.2.1
def EM (M : Mem) (L : List Ent) : Prop := M 0 39 = nI L.length ∧ L.length ≤ 6 ∧ ∀ j E, L[j]? = some E → EM1 M j E
/-- whether an entry is gone now -/
def gone (now : Int32) (ls : Nat → Int32) (E : Ent) : Bool := (match E.2.2.2.2.1 with | some d => decide (d ≤ now) | none => false) || decide (ls (E.1 / 2) < now - E.2.1)
/-- what an entry is after a write to source s -/
def hearE (s : Nat) (comes mom : Int32) (E : Ent) : Ent := if E.1 = s then (E.1, E.2.1, E.2.2.1, some (E.2.2.2.1.getD (mom - 1)), some (match E.2.2.2.2.1 with | some d => if comes < d then comes else d | none => comes), E.2.2.2.2.2.1, E.2.2.2.2.2.2) else E
section CacheC
variable {fu : Nat} {M N : Mem} {L : List Ent} {id : Nat → Nat}
theorem kid_kb {a : Nat} (h : kid a) : kb 5 a = true := by
  obtain ⟨k, hk, rfl⟩ := h
  have : k = 0 ∨ k = 1 ∨ k = 2 ∨ k = 3 ∨ k = 4 ∨ k = 5 := by omega
  rcases this with rfl | rfl | rfl | rfl | rfl | rfl <;> decide
theorem kid_ne {a b : Nat} (ha : kid a) (hb : kid b) (h : a ≠ b) : a + 6 < b ∨ b + 6 < a := by
  obtain ⟨k, hk, rfl⟩ := ha
  obtain ⟨l, hl, rfl⟩ := hb
  omega
theorem kid_b {a : Nat} (h : kid a) : 6 ≤ a ∧ a ≤ 41 := by
  obtain ⟨k, hk, rfl⟩ := h
  omega
theorem EC1.cg {a : Nat} {E : Ent} (h : EC1 M a E) (h1 : ∀ i, a ≤ i → i ≤ a + 6 → N i = M i) : EC1 N a E := by
  obtain ⟨h2, h3, h4, h5, h6⟩ := h
  refine ⟨?_, h3.cg (by rw [h1 _ (by omega) (by omega)]) (h1 _ (by omega) (by omega)) (h1 _ (by omega) (by omega)), ?_, h5, ?_⟩
  · rw [h1 a (by omega) (by omega)]; exact h2
  · rw [h1 a (by omega) (by omega)]; exact h4
  · rw [h1 (a + 4) (by omega) (by omega), h1 (a + 5) (by omega) (by omega), h1 (a + 6) (by omega) (by omega)]; exact h6
theorem EC.cg (h : EC M L) (h1 : ∀ i, 2 ≤ i → i ≤ 47 → i ≠ 4 → i ≠ 5 → N i = M i) : EC N L := by
  obtain ⟨id, ⟨a1, a2, a3⟩, h3, h4, h5⟩ := h
  refine ⟨id, ⟨a1, a2, ?_⟩, ?_, h4, fun j E hj => ?_⟩
  · rw [h1 3 (by omega) (by omega) (by omega) (by omega)]; exact a3
  · rw [h1 2 (by omega) (by omega) (by omega) (by omega)]; exact h3
  · have hk := kid_b (a1 j (by have := gl_lt hj; omega))
    exact (h5 j E hj).cg (fun i h6 h7 => h1 i (by omega) (by omega) (by omega) (by omega))
theorem goneC {now : Int32} {ls : Nat → Int32} {E : Ent} (hn : now < 2147483647) : gone now ls E = (decide (nv E.2.2.2.2.1 ≤ now) || decide (ls (E.1 / 2) < now - E.2.1)) := by
  simp only [gone, nv]
  cases E.2.2.2.2.1 with
  | some d => rfl
  | none =>
    have h : ¬ (2147483647 : Int32) ≤ now := by grind
    simp [h]
/-- what the sweep keeps as it goes -/
theorem sweepL {now : Int32} {ls : Nat → Int32} (hn : now < 2147483647) (hnow : M 1 0 = now) (hls : ∀ j, j < 3 → M 5 j = ls j) (hlen : L.length ≤ 6) (hcnt : M 2 4 = nI L.length) {Q : Mem → Prop} (kont : Int32 → Mem → Option Mem) : ∀ d i n (N : Mem) (id : Nat → Nat) (K : List Ent), i + d = L.length → d < n → K.length ≤ i → IDS N id → (∀ a, a ≠ 3 → N a = M a) → (∀ j E, K[j]? = some E → EC1 M (id j) E) → (∀ j E, i ≤ j → L[j]? = some E → EC1 M (id j) E) →
    (∀ N' id', IDS N' id' → (∀ a, a ≠ 3 → N' a = M a) → (∀ j E, (K ++ (L.drop i).filter (fun E => !gone now ls E))[j]? = some E → EC1 M (id' j) E) → (K ++ (L.drop i).filter (fun E => !gone now ls E)).length ≤ 6 → Ok (kont (nI (K ++ (L.drop i).filter (fun E => !gone now ls E)).length) N') Q) →
    Ok (f_X3_sweep_L4 fu kont n (nI K.length) (nI i) N) Q := by
  intro d
  induction d with
  | zero =>
    intro i n N id K h1 h2 h3 hid hfr hK hL hkont
    obtain ⟨n, rfl⟩ := fu1 h2
    have h4 : L.length ≤ i := by omega
    rw [List.drop_eq_nil_of_le h4, List.filter_nil, List.append_nil] at hkont
    have hc : N 2 4 = nI L.length := by rw [hfr 2 (by omega)]; exact hcnt
    simp (disch := omega) only [f_X3_sweep_L4, hc, lit, nI_add, pk_mul, pk_sub, nI_clamp, inb_nI, nI_leI, nI_ltI, nI_eq, add_m1, ↓reduceIte, grd_true, nm_d, jn_d, bd_some, bm_some, om_some, om_none, h4]
    exact hkont N id hid hfr hK (by omega)
  | succ d ih =>
    intro i n N id K h1 h2 h3 hid hfr hK hL hkont
    obtain ⟨n, rfl⟩ := fu1 h2
    have h4 : ¬ L.length ≤ i := by omega
    obtain ⟨a1, a2, a3⟩ := hid
    obtain ⟨E, hE⟩ : ∃ E, L[i]? = some E := ⟨L[i]'(by omega), List.getElem?_eq_getElem (by omega)⟩
    have e1 := hL i E (Nat.le_refl _) hE
    have hd : L.drop i = E :: L.drop (i + 1) := by
      have : i < L.length := by omega
      rw [List.getElem?_eq_getElem this] at hE
      cases hE
      exact List.drop_eq_getElem_cons this
    have hki := a1 i (by omega)
    have hkb := kid_b hki
    obtain ⟨⟨b1, b2, b3, b4, b5, b6, b7⟩, _⟩ := e1
    have c0 : N 1 0 = now := by rw [hfr 1 (by omega)]; exact hnow
    have c1 : N 2 4 = nI L.length := by rw [hfr 2 (by omega)]; exact hcnt
    have c2 : N (id i) = M (id i) := hfr _ (by omega)
    have c3 : N 5 = M 5 := hfr _ (by omega)
    have hg := goneC (E := E) (ls := ls) hn
    have hs : E.1 / 2 < 3 := by omega
    have hkk : inb (nI K.length) 6 = true := inb_nI (by omega) (by omega)
    simp (disch := omega) only [f_X3_sweep_L4, c1, lit, nI_add, pk_mul, pk_sub, nI_clamp, inb_nI, nI_leI, nI_ltI, nI_eq, add_m1, ↓reduceIte, grd_true, nm_d, jn_d, bd_some, bm_some, om_some, om_none, h4, a3 i (by omega), kid_kb hki, c2, b7, b3, b4, c0, c3, hls (E.1 / 2) hs]
    rw [hd, List.filter_cons] at hkont
    by_cases hg1 : nv E.2.2.2.2.1 ≤ now
    · have hgt : gone now ls E = true := by rw [hg]; simp [hg1]
      simp only [hg1, ↓reduceIte]
      rw [hgt] at hkont
      exact ih (i + 1) n N id K (by omega) (by omega) (by omega) ⟨a1, a2, a3⟩ hfr hK (fun j E' hj => hL j E' (by omega)) hkont
    · simp only [hg1, ↓reduceIte]
      by_cases hg2 : ls (E.1 / 2) < now - E.2.1
      · have hgt : gone now ls E = true := by rw [hg]; simp [hg2]
        simp only [hg2, ↓reduceIte]
        rw [hgt] at hkont
        exact ih (i + 1) n N id K (by omega) (by omega) (by omega) ⟨a1, a2, a3⟩ hfr hK (fun j E' hj => hL j E' (by omega)) hkont
      · have hgf : gone now ls E = false := by rw [hg]; simp [hg1, hg2]
        have hkp := a1 K.length (by omega)
        have hkpb := kid_b hkp
        simp (disch := omega) only [hg2, lit, nI_add, pk_mul, pk_sub, nI_clamp, inb_nI, nI_leI, nI_ltI, nI_eq, add_m1, ↓reduceIte, grd_true, nm_d, jn_d, bd_some, bm_some, om_some, om_none, a3 K.length (by omega), kid_kb hkp]
        rw [hgf] at hkont
        simp only [Bool.not_false, ↓reduceIte] at hkont
        have hidn : IDS (up (up N 3 i (nI (id K.length))) 3 K.length (nI (id i))) (fun j => if j = K.length then id i else if j = i then id K.length else id j) := by
          refine ⟨fun j hj => ?_, fun x y hx hy => ?_, fun j hj => ?_⟩
          · dsimp only
            split
            · exact hki
            · split
              · exact hkp
              · exact a1 j hj
          · intro e
            dsimp only at e
            have z1 := a2 x y hx hy
            have z2 := a2 x i hx (by omega)
            have z3 := a2 x K.length hx (by omega)
            have z4 := a2 i y (by omega) hy
            have z5 := a2 K.length y (by omega) hy
            have z6 := a2 i K.length (by omega) (by omega)
            by_cases x1 : x = K.length
            · by_cases y1 : y = K.length
              · omega
              · rw [if_pos x1, if_neg y1] at e
                by_cases y2 : y = i
                · rw [if_pos y2] at e; have := z6 e; omega
                · rw [if_neg y2] at e; have := z4 e; omega
            · rw [if_neg x1] at e
              by_cases x2 : x = i
              · rw [if_pos x2] at e
                by_cases y1 : y = K.length
                · rw [if_pos y1] at e; have := z6 e.symm; omega
                · rw [if_neg y1] at e
                  by_cases y2 : y = i
                  · omega
                  · rw [if_neg y2] at e; have := z5 e; omega
              · rw [if_neg x2] at e
                by_cases y1 : y = K.length
                · rw [if_pos y1] at e; have := z2 e; omega
                · rw [if_neg y1] at e
                  by_cases y2 : y = i
                  · rw [if_pos y2] at e; have := z3 e; omega
                  · rw [if_neg y2] at e; exact z1 e
          · dsimp only
            by_cases hj1 : j = K.length
            · subst hj1; rw [up_s, if_pos rfl]
            · rw [up_m hj1, if_neg hj1]
              by_cases hj2 : j = i
              · subst hj2; rw [up_s, if_pos rfl]
              · rw [up_m hj2, if_neg hj2]; exact a3 j hj
        have hlen1 : (K ++ [E]).length = K.length + 1 := by simp
        have h5 := ih (i + 1) n (up (up N 3 i (nI (id K.length))) 3 K.length (nI (id i))) (fun j => if j = K.length then id i else if j = i then id K.length else id j) (K ++ [E]) (by omega) (by omega) (by omega) hidn (fun a ha => by rw [up_n ha, up_n ha, hfr a ha])
          (fun j E' hj => by
            try dsimp only
            by_cases hj1 : j = K.length
            · subst hj1
              rw [if_pos rfl]
              simp at hj
              subst hj
              exact hL i E (Nat.le_refl _) hE
            · have hlt := gl_lt hj
              rw [hlen1] at hlt
              rw [if_neg hj1, if_neg (by omega)]
              rw [List.getElem?_append_left (by omega)] at hj
              exact hK j E' hj)
          (fun j E' hj hj2 => by
            try dsimp only
            rw [if_neg (by omega), if_neg (by omega)]
            exact hL j E' (by omega) hj2)
          (by simpa only [List.append_assoc, List.singleton_append] using hkont)
        rw [hlen1] at h5
        exact h5
theorem sweep_ok {now : Int32} {ls : Nat → Int32} (hfu : 5000 ≤ fu) (hn : now < 2147483647) (hnow : M 1 0 = now) (hls : ∀ j, j < 3 → M 5 j = ls j) (h : EC M L) : Ok (f_X3_sweep fu M) (fun N => EC N (L.filter (fun E => !gone now ls E)) ∧ (∀ a, a ≠ 2 → a ≠ 3 → N a = M a)) := by
  obtain ⟨id, hid, h2, h3, h4⟩ := h
  simp only [f_X3_sweep, jn_d, nm_d]
  have h5 := sweepL (fu := fu) (M := M) (L := L) hn hnow hls h3 h2 (Q := fun N => EC N (L.filter (fun E => !gone now ls E)) ∧ (∀ a, a ≠ 2 → a ≠ 3 → N a = M a)) (fun x1_2 M_3 => some (up M_3 2 4 x1_2)) L.length 0 fu M id [] (by omega) (by omega) (by simp) hid (fun _ _ => rfl) (fun j E hj => by simp at hj) (fun j E _ hj => h4 j E hj)
    (fun N' id' g1 g2 g3 g4 => by
      simp only [List.drop_zero, List.nil_append] at g3 g4 ⊢
      rw [ok_some]
      refine ⟨⟨id', ⟨g1.1, g1.2.1, fun j hj => by rw [up_n (by omega)]; exact g1.2.2 j hj⟩, up_s, g4, fun j E hj => ?_⟩, fun a ha hb => by rw [up_n ha, g2 a hb]⟩
      have hk := kid_b (g1.1 j (by have := gl_lt hj; omega))
      exact (g3 j E hj).cg (fun i h6 h7 => by rw [up_n (by omega), g2 i (by omega)]))
  exact h5
end CacheC
