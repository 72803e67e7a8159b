/-! ===== a write: the reference ===== -/
section WritesM
variable {fu : Nat} {M N : Mem} {L : List Ent}
theorem set_self {α : Type} {L : List α} {i : Nat} {E : α} (h : L[i]? = some E) : L.set i E = L := by
  apply List.ext_getElem?
  intro j
  by_cases hij : i = j
  · subst hij
    rw [List.getElem?_set_self (gl_lt h), h]
  · rw [List.getElem?_set_ne hij]
theorem EM1_up {E : Ent} {e i : Nat} {v w : Int32} (h : EM1 M e E) (he : e ≠ i) : EM1 (up (up M 33 i v) 34 i w) e E := by
  obtain ⟨⟨b1, b2, b3, b4, b5, b6⟩, ⟨c1, c2, c3⟩, d1, d2, d3⟩ := h
  refine ⟨⟨?_, b2, ?_, ?_, ?_, ?_⟩, ⟨?_, c2, ?_⟩, ?_, d2, ?_⟩
  all_goals simp (disch := omega) only [up_n, up_m]
  all_goals assumption
theorem mhear1 {s : Nat} {comes mom : Int32} {E : Ent} {i : Nat} (h : EM1 M i E) (hs : E.1 = s) (hu : ∀ u, E.2.2.2.1 = some u → u ≠ -1) (hd : ∀ u, E.2.2.2.2.1 = some u → u ≠ -1) :
    EM1 (up (up M 33 i (if nn E.2.2.2.1 = -1 then mom - 1 else nn E.2.2.2.1)) 34 i (if nn E.2.2.2.2.1 = -1 then comes else (if nn E.2.2.2.2.1 ≤ comes then nn E.2.2.2.2.1 else comes))) i (hearE s comes mom E) := by
  obtain ⟨⟨b1, b2, b3, b4, b5, b6⟩, ⟨c1, c2, c3⟩, d1, d2, d3⟩ := h
  simp only [hearE, if_pos hs]
  refine ⟨⟨?_, b2, ?_, ?_, ?_, ?_⟩, ⟨?_, c2, ?_⟩, ?_, d2, ?_⟩
  all_goals simp (disch := omega) only [up_n, up_m, up_s]
  all_goals try assumption
  · cases h7 : E.2.2.2.1 with
    | none => rfl
    | some u => rw [if_neg (show ¬ nn (some u) = -1 from hu u h7)]; rfl
  · cases h7 : E.2.2.2.2.1 with
    | none => rfl
    | some u =>
      rw [if_neg (show ¬ nn (some u) = -1 from hd u h7)]
      by_cases h8 : u ≤ comes
      · rw [if_pos (show nn (some u) ≤ comes from h8)]
        simp only [nn, Option.getD_some]
        rw [if_neg (Int32.not_lt.mpr h8)]
      · rw [if_neg (show ¬ nn (some u) ≤ comes from h8)]
        simp only [nn, Option.getD_some]
        rw [if_pos (Int32.not_le.mp h8)]
theorem mhearL {s : Nat} {now mom : Int32} {lg : Nat → Int32} (hs : s < 6) (hnow : M 0 8 = now) (hmom : M 0 7 = mom) (hlg : M 7 (s / 2) = lg (s / 2)) (hu : ∀ E ∈ L, (∀ u, E.2.2.2.1 = some u → u ≠ -1) ∧ (∀ u, E.2.2.2.2.1 = some u → u ≠ -1)) {Q : Mem → Prop} (kont : Mem → Option Mem) : ∀ d i n (N : Mem), i + d = L.length → d < n → EM N ((L.take i).map (hearE s (now + lg (s / 2)) mom) ++ L.drop i) → (∀ a, a ≠ 33 → a ≠ 34 → N a = M a) →
    (∀ N', EM N' (L.map (hearE s (now + lg (s / 2)) mom)) → (∀ a, a ≠ 33 → a ≠ 34 → N' a = M a) → Ok (kont N') Q) → Ok (f_X11_writes_L22 fu (nI s) kont n (nI i) N) Q := by
  intro d
  induction d with
  | zero =>
    intro i n N h1 h2 hE hfr hk
    obtain ⟨n, rfl⟩ := fu1 h2
    have hcnt := hE.1
    have h6 := hE.2.1
    rw [maplen] at hcnt h6
    have h4 : L.length ≤ i := by omega
    simp (disch := omega) only [f_X11_writes_L22, hcnt, lit, nI_add, pk_mul, pk_sub, nI_clamp, inb_nI, nI_leI, nI_ltI, nI_eq, add_m1, ↓reduceIte, grd_true, nm_d, jn_d, bd_some, bm_some, om_some, om_none, h4]
    rw [List.take_of_length_le h4, List.drop_eq_nil_of_le h4, List.append_nil] at hE
    exact hk N hE hfr
  | succ d ih =>
    intro i n N h1 h2 hE hfr hk
    obtain ⟨n, rfl⟩ := fu1 h2
    have hcnt := hE.1
    have h6 := hE.2.1
    rw [maplen] at hcnt h6
    have h4 : ¬ L.length ≤ i := by omega
    obtain ⟨E, hi⟩ := gl_ex (L := L) (i := i) (by omega)
    have e0 := mapget (h := hearE s (now + lg (s / 2)) mom) hi
    have e1 := hE.2.2 i E e0
    have c0 : N 0 = M 0 := hfr 0 (by omega) (by omega)
    have c7 : N 7 = M 7 := hfr 7 (by omega) (by omega)
    have hms := mapset (h := hearE s (now + lg (s / 2)) mom) hi
    obtain ⟨⟨b1, b2, b3, b4, b5, b6⟩, _⟩ := (show _ ∧ _ from e1)
    have hst : EM (up (up N 33 i (if nn E.2.2.2.1 = -1 then mom - 1 else nn E.2.2.2.1)) 34 i (if nn E.2.2.2.2.1 = -1 then now + lg (s / 2) else (if nn E.2.2.2.2.1 ≤ now + lg (s / 2) then nn E.2.2.2.2.1 else now + lg (s / 2)))) ((L.take (i + 1)).map (hearE s (now + lg (s / 2)) mom) ++ L.drop (i + 1)) ∨ E.1 ≠ s := by
      by_cases hsrc : E.1 = s
      · refine Or.inl ?_
        have h7 := mhear1 (s := s) (comes := now + lg (s / 2)) (mom := mom) e1 hsrc (hu E (List.mem_of_getElem? hi)).1 (hu E (List.mem_of_getElem? hi)).2
        refine ⟨?_, ?_, fun j E' hj => ?_⟩
        · rw [up_n (by omega), up_n (by omega), maplen]; exact hcnt
        · rw [maplen]; exact h6
        · by_cases hij : j = i
          · subst hij
            rw [← hms, List.getElem?_set_self (by rw [maplen]; omega)] at hj
            cases hj
            exact h7
          · rw [← hms, List.getElem?_set_ne (by omega)] at hj
            exact EM1_up (hE.2.2 j E' hj) hij
      · exact Or.inr hsrc
    by_cases hsrc : E.1 = s
    · have h8 := ih (i + 1) n _ (by omega) (by omega) (hst.resolve_right (fun z => z hsrc)) (fun a ha hb => by rw [up_n hb, up_n ha, hfr a ha hb]) hk
      have hlt : s / 2 < 3 := by omega
      simp (disch := omega) only [f_X11_writes_L22, c0, hcnt, lit, nI_add, pk_mul, pk_sub, nI_clamp, inb_nI, nI_leI, nI_ltI, nI_eq, add_m1, ↓reduceIte, grd_true, nm_d, jn_d, bd_some, bm_some, om_some, om_none, h4, b1, hsrc, st_store, sto hs, up_n, b5, b6, hnow, hmom, c7, hlg]
      exact h8
    · have hne : ¬ nI E.1 = nI s := by rw [nI_eq (by omega) (by omega)]; exact hsrc
      have hq : hearE s (now + lg (s / 2)) mom E = E := by simp only [hearE, if_neg hsrc]
      have h8 := ih (i + 1) n N (by omega) (by omega) (by
        rw [← hms, hq, set_self e0]
        exact hE) hfr hk
      simp (disch := omega) only [f_X11_writes_L22, c0, hcnt, lit, nI_add, pk_mul, pk_sub, nI_clamp, inb_nI, nI_leI, nI_ltI, nI_eq, add_m1, ↓reduceIte, grd_true, nm_d, jn_d, bd_some, bm_some, om_some, om_none, h4, b1, hsrc]
      exact h8
theorem mwrites_ok {s : Nat} {now mom : Int32} {lg ls : Nat → Int32} (hfu : 5000 ≤ fu) (hs : s < 6) (hnow : M 0 8 = now) (hmom : M 0 7 = mom) (hlg : ∀ j, j < 3 → M 7 j = lg j) (hls : ∀ j, j < 3 → M 10 j = ls j) (hc : now + lg (s / 2) ≠ -1) (hu : ∀ E ∈ L, (∀ u, E.2.2.2.1 = some u → u ≠ -1) ∧ (∀ u, E.2.2.2.2.1 = some u → u ≠ -1)) (h : EM M L) :
    Ok (f_X11_writes fu (nI s) M) (fun N => EM N (wrE s now (mom + 1) lg ls L) ∧ N 0 7 = mom + 1 ∧ N 5 = upd (M 5) s (mom + 1) ∧ (∀ j, j ≠ 7 → j ≠ 39 → N 0 j = M 0 j) ∧ ∀ a, 0 < a → a ≠ 5 → (a < 30 ∨ 41 < a) → N a = M a) := by
  have h6 := h.2.1
  simp (disch := omega) only [f_X11_writes, hmom, nm_d, jn_d, lit, inb_nI, grd_true, nI_clamp, up_s]
  have h1 : EM (up (up M 0 7 (mom + nI 1)) 5 s (mom + nI 1)) L := h.cg (by rw [up_n (by omega), up_m (by omega)]) (fun i _ _ => by rw [up_n (by omega), up_n (by omega)])
  refine mhearL (M := up (up M 0 7 (mom + nI 1)) 5 s (mom + nI 1)) (L := L) (s := s) (now := now) (mom := mom + 1) (lg := lg) hs (by rw [up_n (by omega), up_m (by omega)]; exact hnow) (by rw [up_n (by omega), up_s]; rfl) (by rw [up_n (by omega), up_n (by omega)]; exact hlg _ (by omega)) hu _ L.length 0 fu _ (by omega) (by omega) (by simpa using h1) (fun _ _ _ => rfl) (fun N hN hfr => ?_)
  rw [ok_bd]
  refine (drops_ok (now := now) (ls := ls) hfu ?_ ?_ ?_ hN).imp ?_
  · rw [hfr 0 (by omega) (by omega), up_n (by omega), up_m (by omega)]; exact hnow
  · intro j hj; rw [hfr 10 (by omega) (by omega), up_n (by omega), up_n (by omega)]; exact hls j hj
  · intro E hE d hd
    obtain ⟨E0, hE0, rfl⟩ := List.mem_map.mp hE
    have h9 := (hu E0 hE0).2
    simp only [hearE] at hd
    split at hd
    · simp only [Option.some.injEq] at hd
      rw [← hd]
      cases h7 : E0.2.2.2.2.1 with
      | none => exact hc
      | some x =>
        simp only []
        split
        · exact hc
        · exact h9 x h7
    · exact h9 d hd
  · intro N' hN'
    rw [ok_some]
    refine ⟨hN'.1, ?_, ?_, fun j hj1 hj2 => ?_, fun a h2 h3 h4 => ?_⟩
    · rw [hN'.2.2 7 (by omega), hfr 0 (by omega) (by omega), up_n (by omega), up_s]
    · rw [hN'.2.1 5 (by omega) (by omega), hfr 5 (by omega) (by omega), up_r, up_n (by omega)]
    · rw [hN'.2.2 j hj2, hfr 0 (by omega) (by omega), up_n (by omega), up_m hj1]
    · rw [hN'.2.1 a h2 h4, hfr a (by omega) (by omega), up_n h3, up_n (by omega)]
end WritesM
