/-! ===== entries of the reference: moved, dropped, a write ===== -/
def mvM (M : Mem) (p q : Nat) : Mem := row (row (row (row (row (up (up (up (up (up (up (up M 30 q (M 30 p)) 31 q (M 31 p)) 32 q (M 32 p)) 33 q (M 33 p)) 34 q (M 34 p)) 35 q (M 35 p)) 38 q (M 38 p)) 36 (va_cpy (M 36) (M 36) (12 * p) (12 * q) 12)) 37 (va_cpy (M 37) (M 37) (48 * p) (48 * q) 48)) 39 (va_cpy (M 39) (M 39) (4 * p) (4 * q) 4)) 40 (va_cpy (M 40) (M 40) (4 * p) (4 * q) 4)) 41 (va_cpy (M 41) (M 41) (4 * p) (4 * q) 4)
section DropsM
variable {fu : Nat} {M N : Mem} {L : List Ent} {p q : Nat}
theorem mv86 (hp : p < 6) (hq : q ≤ p) {k : Mem → Option Mem} : ∀ d c n, c + d = 12 → d < n → f_X11_moves_L86 fu (nI p) (nI q) k n (nI c) (row M 36 (va_cpy (M 36) (M 36) (12 * p) (12 * q) c)) = k (row M 36 (va_cpy (M 36) (M 36) (12 * p) (12 * q) 12)) := by
  intro d
  induction d with
  | zero =>
    intro c n h1 h2
    obtain ⟨n, rfl⟩ := fu1 h2
    obtain rfl : c = 12 := by omega
    simp (disch := omega) only [f_X11_moves_L86, lit, nI_add, pk_mul, pk_sub, nI_clamp, inb_nI, nI_leI, nI_ltI, nI_eq, add_m1, ↓reduceIte, grd_true, nm_d, jn_d, bd_some, bm_some, om_some, om_none, Nat.le_refl]
  | succ d ih =>
    intro c n h1 h2
    obtain ⟨n, rfl⟩ := fu1 h2
    have hc : ¬ 12 ≤ c := by omega
    simp (disch := omega) only [f_X11_moves_L86, lit, nI_add, pk_mul, pk_sub, nI_clamp, inb_nI, nI_leI, nI_ltI, nI_eq, add_m1, ↓reduceIte, grd_true, nm_d, jn_d, bd_some, bm_some, om_some, om_none, hc, row_s]
    rw [up_row, row_s, row_row, cp_in (by omega), cp_s]
    exact ih (c + 1) n (by omega) (by omega)
theorem mv122 (hp : p < 6) (hq : q ≤ p) {k : Mem → Option Mem} : ∀ d c n, c + d = 48 → d < n → f_X11_moves_L122 fu (nI p) (nI q) k n (nI c) (row M 37 (va_cpy (M 37) (M 37) (48 * p) (48 * q) c)) = k (row M 37 (va_cpy (M 37) (M 37) (48 * p) (48 * q) 48)) := by
  intro d
  induction d with
  | zero =>
    intro c n h1 h2
    obtain ⟨n, rfl⟩ := fu1 h2
    obtain rfl : c = 48 := by omega
    simp (disch := omega) only [f_X11_moves_L122, lit, nI_add, pk_mul, pk_sub, nI_clamp, inb_nI, nI_leI, nI_ltI, nI_eq, add_m1, ↓reduceIte, grd_true, nm_d, jn_d, bd_some, bm_some, om_some, om_none, Nat.le_refl]
  | succ d ih =>
    intro c n h1 h2
    obtain ⟨n, rfl⟩ := fu1 h2
    have hc : ¬ 48 ≤ c := by omega
    simp (disch := omega) only [f_X11_moves_L122, lit, nI_add, pk_mul, pk_sub, nI_clamp, inb_nI, nI_leI, nI_ltI, nI_eq, add_m1, ↓reduceIte, grd_true, nm_d, jn_d, bd_some, bm_some, om_some, om_none, hc, row_s]
    rw [up_row, row_s, row_row, cp_in (by omega), cp_s]
    exact ih (c + 1) n (by omega) (by omega)
theorem mv158 (hp : p < 6) (hq : q ≤ p) : ∀ d c n, c + d = 4 → d < n → f_X11_moves_L158 fu (nI p) (nI q) n (nI c) (row (row (row M 39 (va_cpy (M 39) (M 39) (4 * p) (4 * q) c)) 40 (va_cpy (M 40) (M 40) (4 * p) (4 * q) c)) 41 (va_cpy (M 41) (M 41) (4 * p) (4 * q) c)) = some (row (row (row M 39 (va_cpy (M 39) (M 39) (4 * p) (4 * q) 4)) 40 (va_cpy (M 40) (M 40) (4 * p) (4 * q) 4)) 41 (va_cpy (M 41) (M 41) (4 * p) (4 * q) 4)) := by
  intro d
  induction d with
  | zero =>
    intro c n h1 h2
    obtain ⟨n, rfl⟩ := fu1 h2
    obtain rfl : c = 4 := by omega
    simp (disch := omega) only [f_X11_moves_L158, lit, nI_add, pk_mul, pk_sub, nI_clamp, inb_nI, nI_leI, nI_ltI, nI_eq, add_m1, ↓reduceIte, grd_true, nm_d, jn_d, bd_some, bm_some, om_some, om_none, Nat.le_refl]
  | succ d ih =>
    intro c n h1 h2
    obtain ⟨n, rfl⟩ := fu1 h2
    have hc : ¬ 4 ≤ c := by omega
    simp (disch := omega) only [f_X11_moves_L158, lit, nI_add, pk_mul, pk_sub, nI_clamp, inb_nI, nI_leI, nI_ltI, nI_eq, add_m1, ↓reduceIte, grd_true, nm_d, jn_d, bd_some, bm_some, om_some, om_none, hc, row_s, row_n, up_n]
    rw [cp_in (by omega), cp_in (by omega), cp_in (by omega)]
    have e : up (up (up (row (row (row M 39 (va_cpy (M 39) (M 39) (4 * p) (4 * q) c)) 40 (va_cpy (M 40) (M 40) (4 * p) (4 * q) c)) 41 (va_cpy (M 41) (M 41) (4 * p) (4 * q) c)) 39 (4 * q + c) (M 39 (4 * p + c))) 40 (4 * q + c) (M 40 (4 * p + c))) 41 (4 * q + c) (M 41 (4 * p + c)) = row (row (row M 39 (va_cpy (M 39) (M 39) (4 * p) (4 * q) (c + 1))) 40 (va_cpy (M 40) (M 40) (4 * p) (4 * q) (c + 1))) 41 (va_cpy (M 41) (M 41) (4 * p) (4 * q) (c + 1)) := by
      simp only [← cp_s]
      funext i
      by_cases h41 : i = 41
      · subst h41; simp (disch := omega) only [up_r, up_n, row_s, row_n]
      · by_cases h40 : i = 40
        · subst h40; simp (disch := omega) only [up_r, up_n, row_s, row_n]
        · by_cases h39 : i = 39
          · subst h39; simp (disch := omega) only [up_r, up_n, row_s, row_n]
          · simp (disch := omega) only [up_n, row_n]
    rw [e]
    exact ih (c + 1) n (by omega) (by omega)
theorem moves_eq (hfu : 5000 ≤ fu) (hp : p < 6) (hq : q ≤ p) : f_X11_moves fu (nI p) (nI q) M = some (mvM M p q) := by
  simp (disch := omega) only [f_X11_moves, lit, nI_add, pk_mul, pk_sub, nI_clamp, inb_nI, nI_leI, nI_ltI, nI_eq, add_m1, ↓reduceIte, grd_true, nm_d, jn_d, bd_some, bm_some, om_some, om_none, up_n]
  have e1 := mv86 (fu := fu) (p := p) (q := q) (M := (up (up (up (up (up (up (up M 30 q (M 30 p)) 31 q (M 31 p)) 32 q (M 32 p)) 33 q (M 33 p)) 34 q (M 34 p)) 35 q (M 35 p)) 38 q (M 38 p))) hp hq (k := fun M_11 => f_X11_moves_L122 fu (nI p) (nI q) (fun M_13 => f_X11_moves_L158 fu (nI p) (nI q) fu (nI 0) M_13) fu (nI 0) M_11) 12 0 fu (by omega) (by omega)
  rw [cp_0, row_self] at e1
  rw [e1]
  simp (disch := omega) only [up_n]
  generalize hN : row (up (up (up (up (up (up (up M 30 q (M 30 p)) 31 q (M 31 p)) 32 q (M 32 p)) 33 q (M 33 p)) 34 q (M 34 p)) 35 q (M 35 p)) 38 q (M 38 p)) 36 (va_cpy (M 36) (M 36) (12 * p) (12 * q) 12) = N
  have e2 := mv122 (fu := fu) (p := p) (q := q) (M := N) hp hq (k := fun M_13 => f_X11_moves_L158 fu (nI p) (nI q) fu (nI 0) M_13) 48 0 fu (by omega) (by omega)
  rw [cp_0, row_self] at e2
  rw [e2]
  have n37 : N 37 = M 37 := by rw [← hN]; simp (disch := omega) only [up_n, row_n]
  have n39 : N 39 = M 39 := by rw [← hN]; simp (disch := omega) only [up_n, row_n]
  have n40 : N 40 = M 40 := by rw [← hN]; simp (disch := omega) only [up_n, row_n]
  have n41 : N 41 = M 41 := by rw [← hN]; simp (disch := omega) only [up_n, row_n]
  have e3 := mv158 (fu := fu) (p := p) (q := q) (M := row N 37 (va_cpy (N 37) (N 37) (48 * p) (48 * q) 48)) hp hq 4 0 fu (by omega) (by omega)
  simp (disch := omega) only [cp_0, row_n, n39, n40, n41, n37] at e3
  rw [n37]
  have e4 : row (row (row (row N 37 (va_cpy (M 37) (M 37) (48 * p) (48 * q) 48)) 39 (M 39)) 40 (M 40)) 41 (M 41) = row N 37 (va_cpy (M 37) (M 37) (48 * p) (48 * q) 48) := by
    funext i
    by_cases h41 : i = 41
    · subst h41; simp (disch := omega) only [row_s, row_n, n41]
    · by_cases h40 : i = 40
      · subst h40; simp (disch := omega) only [row_s, row_n, n40]
      · by_cases h39 : i = 39
        · subst h39; simp (disch := omega) only [row_s, row_n, n39]
        · simp (disch := omega) only [row_n]
  rw [e4] at e3
  rw [e3, ← hN]
  rfl
theorem mvM_n {i : Nat} (h : i < 30 ∨ 41 < i) : mvM M p q i = M i := by
  simp (disch := omega) only [mvM, up_n, row_n]
theorem cpo {f : Nat → Int32} {k i : Nat} (hi : i < k) : off (va_cpy f f (k * p) (k * q) k) (k * q) i = off f (k * p) i := by
  simp only [off]
  rw [pk_cpy_in (by omega) (by omega)]
  congr 1
  omega
theorem cpn {f : Nat → Int32} {k i e : Nat} (he : e ≠ q) (hi : i < k) : off (va_cpy f f (k * p) (k * q) k) (k * e) i = off f (k * e) i := by
  simp only [off]
  rw [pk_cpy_out]
  rcases Nat.lt_or_gt_of_ne he with h | h
  · have := Nat.mul_le_mul_left k (show e + 1 ≤ q from h)
    rw [Nat.mul_add] at this
    omega
  · have := Nat.mul_le_mul_left k (show q + 1 ≤ e from h)
    rw [Nat.mul_add] at this
    omega
theorem EM1_mv {E : Ent} (h : EM1 M p E) : EM1 (mvM M p q) q E := by
  obtain ⟨⟨b1, b2, b3, b4, b5, b6⟩, ⟨c1, c2, c3⟩, d1, d2, d3⟩ := h
  refine ⟨⟨?_, b2, ?_, ?_, ?_, ?_⟩, ⟨?_, c2, ?_⟩, ?_, d2, ?_⟩
  · simp (disch := omega) only [mvM, up_n, row_n, up_s]; exact b1
  · simp (disch := omega) only [mvM, up_n, row_n, up_s]; exact b3
  · simp (disch := omega) only [mvM, up_n, row_n, up_s]; exact b4
  · simp (disch := omega) only [mvM, up_n, row_n, up_s]; exact b5
  · simp (disch := omega) only [mvM, up_n, row_n, up_s]; exact b6
  · simp (disch := omega) only [mvM, up_n, row_n, up_s]; exact c1
  · simp (disch := omega) only [mvM, row_n, row_s]
    exact c3.cg (fun i hi => cpo (by omega)) (fun i hi => cpo (by omega))
  · simp (disch := omega) only [mvM, up_n, row_n, up_s]; exact d1
  · simp (disch := omega) only [mvM, row_n, row_s]
    intro i c hc
    have hi := gl_lt hc
    rw [cpo (by omega), cpo (by omega), cpo (by omega)]
    exact d3 i c hc
theorem EM1_mvn {E : Ent} {e : Nat} (h : EM1 M e E) (he : e ≠ q) : EM1 (mvM M p q) e E := by
  obtain ⟨⟨b1, b2, b3, b4, b5, b6⟩, ⟨c1, c2, c3⟩, d1, d2, d3⟩ := h
  refine ⟨⟨?_, b2, ?_, ?_, ?_, ?_⟩, ⟨?_, c2, ?_⟩, ?_, d2, ?_⟩
  · simp (disch := omega) only [mvM, up_n, row_n, up_m]; exact b1
  · simp (disch := omega) only [mvM, up_n, row_n, up_m]; exact b3
  · simp (disch := omega) only [mvM, up_n, row_n, up_m]; exact b4
  · simp (disch := omega) only [mvM, up_n, row_n, up_m]; exact b5
  · simp (disch := omega) only [mvM, up_n, row_n, up_m]; exact b6
  · simp (disch := omega) only [mvM, up_n, row_n, up_m]; exact c1
  · simp (disch := omega) only [mvM, row_n, row_s]
    exact c3.cg (fun i hi => cpn he (by omega)) (fun i hi => cpn he (by omega))
  · simp (disch := omega) only [mvM, up_n, row_n, up_m]; exact d1
  · simp (disch := omega) only [mvM, row_n, row_s]
    intro i c hc
    have hi := gl_lt hc
    rw [cpn he (by omega), cpn he (by omega), cpn he (by omega)]
    exact d3 i c hc
theorem EM1.cg {e : Nat} {E : Ent} (h : EM1 M e E) (h1 : ∀ i, 30 ≤ i → i ≤ 41 → N i = M i) : EM1 N e E := by
  simp only [EM1, h1 30 (by omega) (by omega), h1 31 (by omega) (by omega), h1 32 (by omega) (by omega), h1 33 (by omega) (by omega), h1 34 (by omega) (by omega), h1 35 (by omega) (by omega), h1 36 (by omega) (by omega), h1 37 (by omega) (by omega), h1 38 (by omega) (by omega), h1 39 (by omega) (by omega), h1 40 (by omega) (by omega), h1 41 (by omega) (by omega)] at h ⊢
  exact h
theorem EM.cg (h : EM M L) (h0 : N 0 39 = M 0 39) (h1 : ∀ i, 30 ≤ i → i ≤ 41 → N i = M i) : EM N L := ⟨by rw [h0]; exact h.1, h.2.1, fun j E hj => (h.2.2 j E hj).cg h1⟩
theorem dropsL {now : Int32} {ls : Nat → Int32} (hnow : M 0 8 = now) (hls : ∀ j, j < 3 → M 10 j = ls j) (hlen : L.length ≤ 6) (hcnt : M 0 39 = nI L.length) (hd1 : ∀ E ∈ L, ∀ d, E.2.2.2.2.1 = some d → d ≠ -1) (hfu : 5000 ≤ fu) {Q : Mem → Prop} (kont : Int32 → Mem → Option Mem) : ∀ d i n (N : Mem) (K : List Ent), i + d = L.length → d < n → K.length ≤ i → (∀ a, a < 30 ∨ 41 < a → N a = M a) → (∀ j E, K[j]? = some E → EM1 N j E) → (∀ j E, i ≤ j → L[j]? = some E → EM1 N j E) →
    (∀ N', (∀ a, a < 30 ∨ 41 < a → N' a = M a) → (∀ j E, (K ++ (L.drop i).filter (fun E => !gone now ls E))[j]? = some E → EM1 N' j E) → (K ++ (L.drop i).filter (fun E => !gone now ls E)).length ≤ 6 → Ok (kont (nI (K ++ (L.drop i).filter (fun E => !gone now ls E)).length) N') Q) →
    Ok (f_X11_drops_L4 fu kont n (nI K.length) (nI i) N) Q := by
  intro d
  induction d with
  | zero =>
    intro i n N K h1 h2 h3 hfr hK hL hkont
    obtain ⟨n, rfl⟩ := fu1 h2
    have h4 : L.length ≤ i := by omega
    rw [List.drop_eq_nil_of_le h4, List.filter_nil, List.append_nil] at hkont
    have hc : N 0 39 = nI L.length := by rw [hfr 0 (by omega)]; exact hcnt
    simp (disch := omega) only [f_X11_drops_L4, hc, lit, nI_add, pk_mul, pk_sub, nI_clamp, inb_nI, nI_leI, nI_ltI, nI_eq, add_m1, ↓reduceIte, grd_true, nm_d, jn_d, bd_some, bm_some, om_some, om_none, h4]
    exact hkont N hfr hK (by omega)
  | succ d ih =>
    intro i n N K h1 h2 h3 hfr hK hL hkont
    obtain ⟨n, rfl⟩ := fu1 h2
    have h4 : ¬ L.length ≤ i := by omega
    obtain ⟨E, hE⟩ := gl_ex (L := L) (i := i) (by omega)
    have e1 := hL i E (Nat.le_refl _) hE
    have hd : L.drop i = E :: L.drop (i + 1) := by
      have : i < L.length := by omega
      rw [List.getElem?_eq_getElem this] at hE
      cases hE
      exact List.drop_eq_getElem_cons this
    obtain ⟨⟨b1, b2, b3, b4, b5, b6⟩, _⟩ := (show _ ∧ _ from e1)
    have c0 : N 0 = M 0 := hfr 0 (by omega)
    have c3 : N 10 = M 10 := hfr 10 (by omega)
    have hs : E.1 / 2 < 3 := by omega
    simp (disch := omega) only [f_X11_drops_L4, c0, hcnt, nm_d, jn_d, lit, nI_add, pk_mul, pk_sub, nI_clamp, inb_nI, nI_leI, nI_ltI, nI_eq, add_m1, ↓reduceIte, grd_true, nm_d, jn_d, bd_some, bm_some, om_some, om_none, h4, b1, b3, b6, c3, st_store, sto b2, hls (E.1 / 2) hs, hnow]
    rw [hd, List.filter_cons] at hkont
    have key : ∀ (A B : Option Mem), (gone now ls E = true → Ok A Q) → (gone now ls E = false → Ok B Q) → Ok (if nn E.2.2.2.2.1 = -nI 1 then (if now - E.2.1 ≤ ls (E.1 / 2) then B else A) else (if nn E.2.2.2.2.1 ≤ now then A else (if now - E.2.1 ≤ ls (E.1 / 2) then B else A))) Q := by
      intro A B hA hB
      have hx := hd1 E (List.mem_of_getElem? hE)
      by_cases h8 : now - E.2.1 ≤ ls (E.1 / 2)
      · simp only [h8, ↓reduceIte]
        have h9 : ¬ ls (E.1 / 2) < now - E.2.1 := Int32.not_lt.mpr h8
        cases h7 : E.2.2.2.2.1 with
        | none =>
          rw [if_pos (show nn none = -nI 1 from rfl)]
          exact hB (by simp [gone, h7, h9])
        | some x =>
          rw [if_neg (show ¬ nn (some x) = -nI 1 from hx x h7)]
          by_cases h10 : x ≤ now
          · rw [if_pos (show nn (some x) ≤ now from h10)]
            exact hA (by simp [gone, h7, h10])
          · rw [if_neg (show ¬ nn (some x) ≤ now from h10)]
            exact hB (by simp [gone, h7, h9, h10])
      · simp only [h8, ↓reduceIte, ite_self]
        have h9 : ls (E.1 / 2) < now - E.2.1 := Int32.not_le.mp h8
        exact hA (by simp [gone, h9])
    refine key _ _ (fun hg => ?_) (fun hg => ?_)
    · rw [hg] at hkont
      try rw [if_neg (by decide)]
      exact ih (i + 1) n N K (by omega) (by omega) (by omega) hfr hK (fun j E' hj => hL j E' (by omega)) hkont
    · rw [hg] at hkont
      simp only [Bool.not_false, ↓reduceIte] at hkont
      have hlen1 : (K ++ [E]).length = K.length + 1 := by simp
      have h5 := ih (i + 1) n (mvM N i K.length) (K ++ [E]) (by omega) (by omega) (by omega) (fun a ha => by rw [mvM_n ha, hfr a ha])
        (fun j E' hj => by
          by_cases hj1 : j = K.length
          · subst hj1
            simp at hj
            subst hj
            exact EM1_mv e1
          · have hlt := gl_lt hj
            rw [hlen1] at hlt
            rw [List.getElem?_append_left (by omega)] at hj
            exact EM1_mvn (hK j E' hj) hj1)
        (fun j E' hj hj2 => EM1_mvn (hL j E' (by omega) hj2) (by omega))
        (by simpa only [List.append_assoc, List.singleton_append] using hkont)
      rw [hlen1] at h5
      simp only [moves_eq (M := N) hfu (show i < 6 by omega) h3, bd_some]
      exact h5
theorem drops_ok {now : Int32} {ls : Nat → Int32} (hfu : 5000 ≤ fu) (hnow : M 0 8 = now) (hls : ∀ j, j < 3 → M 10 j = ls j) (hd1 : ∀ E ∈ L, ∀ d, E.2.2.2.2.1 = some d → d ≠ -1) (h : EM M L) : Ok (f_X11_drops fu M) (fun N => EM N (L.filter (fun E => !gone now ls E)) ∧ (∀ a, 0 < a → a < 30 ∨ 41 < a → N a = M a) ∧ ∀ j, j ≠ 39 → N 0 j = M 0 j) := by
  obtain ⟨h2, h3, h4⟩ := h
  simp only [f_X11_drops, jn_d, nm_d]
  exact dropsL (fu := fu) (M := M) (L := L) hnow hls h3 h2 hd1 hfu (Q := fun N => EM N (L.filter (fun E => !gone now ls E)) ∧ (∀ a, 0 < a → a < 30 ∨ 41 < a → N a = M a) ∧ ∀ j, j ≠ 39 → N 0 j = M 0 j) (fun x1_2 M_3 => some (up M_3 0 39 x1_2)) L.length 0 fu M [] (by omega) (by omega) (by simp) (fun _ _ => rfl) (fun j E hj => by simp at hj) (fun j E _ hj => h4 j E hj)
    (fun N' g2 g3 g4 => by
      simp only [List.drop_zero, List.nil_append] at g3 g4 ⊢
      rw [ok_some]
      refine ⟨⟨up_s, g4, fun j E hj => (g3 j E hj).cg (fun i h6 h7 => by rw [up_n (by omega)])⟩, fun a ha hb => by rw [up_n (by omega), g2 a hb], fun j hj => by rw [up_m hj, g2 0 (by omega)]⟩)
end DropsM
