/-! ===== what both share: the time, the stores, the entries ===== -/
def inr (f : Nat → Int32) (n k : Nat) : Prop := ∀ j, j < n → ∃ v, v ≤ k ∧ f j = nI v
def KA (M m : Mem) : Prop := M 49 = m 6 ∧ M 4 = m 7 ∧ M 50 = m 8 ∧ M 51 = m 9 ∧ M 5 = m 10 ∧ M 52 = m 11 ∧ M 53 = m 12 ∧ M 55 = m 13 ∧ M 56 = m 14
def KG (m : Mem) : Prop := inr (m 6) 3 30 ∧ inr (m 7) 3 60 ∧ inr (m 9) 3 12 ∧ m 15 = fee ∧ m 16 = freight
def okR (R : List Row) : Prop := ∀ r ∈ R, ∀ c, c < 4 → okc (cel r c)
def E1 (t u : Nat) (E : Ent) : Prop := (∃ k, k ≤ t ∧ E.2.1 = nI k) ∧ (∃ k, k ≤ u ∧ E.2.2.1 = nI k) ∧ (∀ d, E.2.2.2.1 = some d → ∃ k, k ≤ u ∧ d = nI k) ∧ (∀ d, E.2.2.2.2.1 = some d → ∃ k, k ≤ t + 60 ∧ d = nI k) ∧ okR E.2.2.2.2.2.2
def EG (t u : Nat) (L : List Ent) : Prop := ∀ E ∈ L, E1 t u E
def TR (M m : Mem) (t u : Nat) : Prop := M 1 0 = nI t ∧ m 0 8 = nI t ∧ M 1 1 = nI u ∧ m 0 7 = nI u
def KR (M m : Mem) (t u : Nat) : Prop := TR M m t u ∧ KA M m ∧ KG m ∧ ∃ L, EC M L ∧ EM m L ∧ EG t u L
def FC1 (N M : Mem) : Prop := ∀ a, a ≠ 1 → a ≠ 2 → a ≠ 3 → N a = M a
def FM1 (n m : Mem) : Prop := (∀ a, 0 < a → a < 30 ∨ 41 < a → n a = m a) ∧ ∀ j, j ≠ 8 → j ≠ 39 → n 0 j = m 0 j
section Time
variable {fu t u d j : Nat} {M m N n : Mem} {L : List Ent}
theorem i_nm1 {k : Nat} (h : k < 2 ^ 31) : nI k ≠ -1 := nI_nm1 h
theorem i_max {k : Nat} (h : k < 2147483647) : nI k < 2147483647 := by
  simp (disch := omega) only [lit, nI_add, pk_mul, pk_sub, nI_clamp, inb_nI, nI_leI, nI_ltI, nI_eq, add_m1, ↓reduceIte, grd_true, nm_d, jn_d, bd_some, bm_some, om_some, om_none]
  exact h
theorem E1.mono {t' u' : Nat} {E : Ent} (h : E1 t u E) (ht : t ≤ t') (hu : u ≤ u') : E1 t' u' E := by
  obtain ⟨⟨a, a1, a2⟩, ⟨b, b1, b2⟩, h3, h4, h5⟩ := h
  refine ⟨⟨a, by omega, a2⟩, ⟨b, by omega, b2⟩, fun d hd => ?_, fun d hd => ?_, h5⟩
  · obtain ⟨k, k1, k2⟩ := h3 d hd; exact ⟨k, by omega, k2⟩
  · obtain ⟨k, k1, k2⟩ := h4 d hd; exact ⟨k, by omega, k2⟩
theorem EG.mono {t' u' : Nat} (h : EG t u L) (ht : t ≤ t') (hu : u ≤ u') : EG t' u' L := fun E hE => (h E hE).mono ht hu
theorem EG.filter {p : Ent → Bool} (h : EG t u L) : EG t u (L.filter p) := fun E hE => h E (List.mem_filter.mp hE).1
theorem EG.drop1 (h : EG t u L) (ht : t < 2 ^ 30) : ∀ E ∈ L, ∀ d, E.2.2.2.2.1 = some d → d ≠ -1 := fun E hE d hd => by
  obtain ⟨k, k1, k2⟩ := (h E hE).2.2.2.1 d hd
  rw [k2]
  exact i_nm1 (by omega)
theorem KR.cg (h : KR M m t u) (h1 : ∀ a, 1 ≤ a → a ≤ 56 → a ≠ 54 → N a = M a) (h2 : n 0 7 = m 0 7) (h3 : n 0 8 = m 0 8) (h4 : n 0 39 = m 0 39) (h5 : ∀ a, 6 ≤ a → a ≤ 16 → n a = m a) (h6 : ∀ a, 30 ≤ a → a ≤ 41 → n a = m a) : KR N n t u := by
  obtain ⟨⟨a1, a2, a3, a4⟩, ⟨b1, b2, b3, b4, b5, b6, b7, b8, b9⟩, ⟨c1, c2, c3, c4, c5⟩, L, d1, d2, d3⟩ := h
  refine ⟨⟨?_, ?_, ?_, ?_⟩, ⟨?_, ?_, ?_, ?_, ?_, ?_, ?_, ?_, ?_⟩, ⟨?_, ?_, ?_, ?_, ?_⟩, L, d1.cg (fun i _ _ _ _ => h1 i (by omega) (by omega) (by omega)), d2.cg h4 h6, d3⟩
  all_goals (try simp (disch := omega) only [h1, h2, h3, h5])
  all_goals assumption
theorem goOn2 (hfu : 5000 ≤ fu) (h : KR M m t u) (ht : t + d < 2 ^ 30) : ∃ N n, f_X8_goOnTo fu (nI (t + d)) M = some N ∧ f_X11_goes fu (nI d) m = some n ∧ KR N n (t + d) u ∧ FC1 N M ∧ FM1 n m := by
  obtain ⟨⟨a1, a2, a3, a4⟩, hKA, hKG, L, d1, d2, d3⟩ := h
  have hc : EC (up M 1 0 (nI (t + d))) L := d1.cg (fun i _ _ _ _ => by rw [up_n (by omega)])
  have hm : EM (up m 0 8 (nI (t + d))) L := d2.cg (by rw [up_m (by omega)]) (fun i _ _ => by rw [up_n (by omega)])
  obtain ⟨N, e1, hN1, hN2⟩ := sweep_ok (M := up M 1 0 (nI (t + d))) (now := nI (t + d)) (ls := M 5) hfu (i_max (by omega)) up_s (fun j _ => by rw [up_n (by omega)]) hc
  obtain ⟨n, e2, hn1, hn2, hn3⟩ := drops_ok (M := up m 0 8 (nI (t + d))) (now := nI (t + d)) (ls := m 10) hfu up_s (fun j _ => by rw [up_n (by omega)]) (d3.drop1 (by omega)) hm
  have hfl : L.filter (fun E => !gone (nI (t + d)) (M 5) E) = L.filter (fun E => !gone (nI (t + d)) (m 10) E) := by rw [hKA.2.2.2.2.1]
  obtain ⟨b1, b2, b3, b4, b5, b6, b7, b8, b9⟩ := hKA
  obtain ⟨c1, c2, c3, c4, c5⟩ := hKG
  refine ⟨N, n, ?_, ?_, ⟨⟨?_, ?_, ?_, ?_⟩, ⟨?_, ?_, ?_, ?_, ?_, ?_, ?_, ?_, ?_⟩, ⟨?_, ?_, ?_, ?_, ?_⟩, L.filter (fun E => !gone (nI (t + d)) (M 5) E), hN1, by rw [hfl]; exact hn1, (d3.mono (by omega) (Nat.le_refl _)).filter⟩, ?_, ?_⟩
  · simp only [f_X8_goOnTo, nm_d, e1, bd_some]
  · simp only [f_X11_goes, nm_d, a2, nI_add, e2, bd_some]
  · rw [hN2 1 (by omega) (by omega), up_s]
  · rw [hn3 8 (by omega), up_s]
  · rw [hN2 1 (by omega) (by omega), up_m (by omega)]; exact a3
  · rw [hn3 7 (by omega), up_m (by omega)]; exact a4
  all_goals (try simp (disch := omega) only [hN2, hn2, up_n])
  all_goals (try assumption)
  · intro a h1 h2 h3; rw [hN2 a h2 h3, up_n h1]
  · refine ⟨fun a h1 h2 => by rw [hn2 a h1 h2, up_n (by omega)], fun j h1 h2 => by rw [hn3 j h2, up_m h1]⟩
/-- the store's window: waited for -/
theorem await2 {β : Type} {K : Mem → β} (hfu : 5000 ≤ fu) (h : KR M m t u) (ht : t < 2 ^ 29) (hj : j < 3) {R : Option (Int32 × Mem) → Prop} {K : Mem → Option (Int32 × Mem)} (hK : ∀ N n t', t ≤ t' → t' ≤ t + 10 → KR N n t' u → FC1 N M → FM1 n m → f_X8_awaitQuota fu (nI j) M = some N → R (K n)) : R (if m 13 j = m 0 8 / 10 then (if m 14 j < m 8 j then K m else bd (f_X11_goes fu (10 - (m 0 8 - m 0 8 / 10 * 10)) m) (fun M_24 => K M_24)) else K m) := by
  obtain ⟨⟨a1, a2, a3, a4⟩, ⟨b1, b2, b3, b4, b5, b6, b7, b8, b9⟩, hKG, hL⟩ := h
  have hh : KR M m t u := ⟨⟨a1, a2, a3, a4⟩, ⟨b1, b2, b3, b4, b5, b6, b7, b8, b9⟩, hKG, hL⟩
  have same : f_X8_awaitQuota fu (nI j) M = some M → R (K m) := fun e => hK M m t (Nat.le_refl _) (by omega) hh (fun _ _ _ _ => rfl) ⟨fun _ _ _ => rfl, fun _ _ _ => rfl⟩ e
  have e0 : f_X8_awaitQuota fu (nI j) M = (if m 13 j = m 0 8 / 10 then (if m 14 j < m 8 j then some M else bd (f_X8_goOnTo fu ((m 0 8 / 10 + 1) * 10) M) (fun M_6 => some M_6)) else some M) := by
    simp (disch := omega) only [f_X8_awaitQuota, nm_d, inb_nI, grd_true, nI_clamp, a1, a2, b3, b8, b9]
  by_cases c1 : m 13 j = m 0 8 / 10
  · by_cases c2 : m 14 j < m 8 j
    · rw [if_pos c1, if_pos c2] at e0 ⊢
      exact same e0
    · rw [if_pos c1, if_neg c2] at e0 ⊢
      obtain ⟨N, n, e1, e2, h1, h2, h3⟩ := goOn2 (d := 10 - t % 10) hfu hh (by omega)
      have e3 : (10 : Int32) - (m 0 8 - m 0 8 / 10 * 10) = nI (10 - t % 10) := by
        rw [a2, lit, pk_rem (by omega) (by omega) (by omega), pk_sub (by omega)]
      have e4 : ((m 0 8 / 10 + 1) * 10 : Int32) = nI (t + (10 - t % 10)) := by
        rw [a2, lit, lit, pk_div (by omega) (by omega) (by omega), nI_add, pk_mul]
        congr 1
        omega
      rw [e3, e2, bd_some]
      rw [e4, e1, bd_some] at e0
      exact hK N n _ (by omega) (by omega) h1 h2 h3 e0
  · rw [if_neg c1] at e0 ⊢
    exact same e0
end Time
