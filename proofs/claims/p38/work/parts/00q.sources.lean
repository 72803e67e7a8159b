/-! ===== sources: rows added, changed, removed, brought back: both ===== -/
def SR (M m : Mem) (RR : Nat → List Row) : Prop := ∀ s, s < 6 → RC M (62 + 3 * s) (RR s) ∧ RM m s (RR s)
def RG (m : Mem) (u : Nat) (RR : Nat → List Row) : Prop := ∀ s, s < 6 → SO (RR s) ∧ okR (RR s) ∧ (s / 2 = 1 → ∀ r ∈ RR s, r.2.2.1 = 5000 ∨ (0 ≤ r.2.2.1 ∧ r.2.2.1 ≤ 99)) ∧ (∃ a, a ≤ 60 ∧ m 4 s = nI a ∧ (s < 2 → ∀ r ∈ RR s, ∃ k, k < a ∧ r.1 = nI k)) ∧ (∃ w, w ≤ u ∧ m 5 s = nI w)
def WR (M m : Mem) (t u : Nat) (RR : Nat → List Row) : Prop := KR M m t u ∧ SR M m RR ∧ RG m u RR ∧ M 58 = m 4 ∧ M 60 = m 5 ∧ M 57 6 = m 0 6
def FCw (N M : Mem) : Prop := ∀ a, (a = 0 ∨ a = 4 ∨ a = 5 ∨ (48 ≤ a ∧ a ≤ 56) ∨ a = 59 ∨ 80 ≤ a) → N a = M a
def FMw (n m : Mem) : Prop := (∀ a, 5 < a → a < 30 ∨ 41 < a → n a = m a) ∧ (∀ j, j ≠ 6 → j ≠ 7 → j ≠ 39 → n 0 j = m 0 j) ∧ ∀ s a, s < 6 → m 4 s = nI a → a ≤ 60 → ∃ a', a ≤ a' ∧ a' ≤ 60 ∧ n 4 s = nI a'
def setR (RR : Nat → List Row) (s : Nat) (R : List Row) : Nat → List Row := fun x => if x = s then R else RR x
section Sources
variable {fu s t u : Nat} {M m N n : Mem} {RR : Nat → List Row} {R : List Row} {r : Row} {mk : Int32}
theorem FCw.rfl : FCw M M := fun _ _ => Eq.refl _
theorem FMw.rfl : FMw m m := ⟨fun _ _ _ => Eq.refl _, fun _ _ _ _ => Eq.refl _, fun _ a _ h ha => ⟨a, Nat.le_refl _, ha, h⟩⟩
theorem FCw.trans {P : Mem} (h : FCw N P) (h' : FCw P M) : FCw N M := fun a ha => by rw [h a ha, h' a ha]
theorem FMw.trans {P : Mem} (h : FMw n P) (h' : FMw P m) : FMw n m := ⟨fun a h1 h2 => by rw [h.1 a h1 h2, h'.1 a h1 h2], fun j h1 h2 h3 => by rw [h.2.1 j h1 h2 h3, h'.2.1 j h1 h2 h3], fun s a hs e ha => by
  obtain ⟨b, b1, b2, b3⟩ := h'.2.2 s a hs e ha
  obtain ⟨c, c1, c2, c3⟩ := h.2.2 s b hs b3 b2
  exact ⟨c, by omega, c2, c3⟩⟩
theorem KR.L (h : KR M m t u) : ∃ L, EC M L ∧ EM m L ∧ EG t u L := h.2.2.2
theorem write2 (hfu : 5000 ≤ fu) (hs : s < 6) (h : KR M m t u) (ht : t < 2 ^ 29) (hu : u < 2 ^ 29) : ∃ N n, f_X7_write fu (nI s) M = some N ∧ f_X11_writes fu (nI s) m = some n ∧ KR N n t (u + 1) ∧ N 60 = upd (M 60) s (nI (u + 1)) ∧ n 5 = upd (m 5) s (nI (u + 1)) ∧ (∀ a, a ≠ 1 → a ≠ 60 → (a < 2 ∨ 47 < a ∨ a = 4 ∨ a = 5) → N a = M a) ∧ (∀ a, 0 < a → a ≠ 5 → (a < 30 ∨ 41 < a) → n a = m a) ∧ (∀ j, j ≠ 7 → j ≠ 39 → n 0 j = m 0 j) := by
  obtain ⟨⟨a1, a2, a3, a4⟩, ⟨b1, b2, b3, b4, b5, b6, b7, b8, b9⟩, ⟨c1, c2, c3, c4, c5⟩, L, d1, d2, d3⟩ := h
  obtain ⟨lg, l1, l2⟩ := c2 (s / 2) (by omega)
  have hcm : nI t + m 7 (s / 2) = nI (t + lg) := by rw [l2, nI_add]
  have hu1 : nI u + 1 = nI (u + 1) := nI_add u 1
  have hle : ∀ E ∈ L, ∀ w, E.2.2.2.1 = some w → w ≤ nI u := fun E hE w hw => by
    obtain ⟨k, k1, k2⟩ := (d3 E hE).2.2.1 w hw
    rw [k2, nI_leI (by omega) (by omega)]; exact k1
  have hne : ∀ E ∈ L, (∀ w, E.2.2.2.1 = some w → w ≠ -1) ∧ (∀ w, E.2.2.2.2.1 = some w → w ≠ -1) := fun E hE => ⟨fun w hw => by
    obtain ⟨k, k1, k2⟩ := (d3 E hE).2.2.1 w hw
    rw [k2]; exact i_nm1 (by omega), fun w hw => by
    obtain ⟨k, k1, k2⟩ := (d3 E hE).2.2.2.1 w hw
    rw [k2]; exact i_nm1 (by omega)⟩
  obtain ⟨N, e1, p1, p2, p3, p4, p5⟩ := write_ok (M := M) (L := L) (lg := m 7) (ls := m 10) hfu hs a1 a3 (fun j _ => by rw [b2]) (fun j _ => by rw [b5]) (i_max (by omega)) (by rw [hcm]; exact i_max (by omega)) (i_max (by omega)) hle d1
  obtain ⟨n, e2, q1, q2, q3, q4, q5⟩ := mwrites_ok (M := m) (L := L) (lg := m 7) (ls := m 10) hfu hs a2 a4 (fun j _ => rfl) (fun j _ => rfl) (by rw [hcm]; exact i_nm1 (by omega)) hne d2
  rw [hu1] at p1 p3 p4 q1 q2 q3
  have hEG : EG t (u + 1) (wrE s (nI t) (nI (u + 1)) (m 7) (m 10) L) := by
    intro E' hE'
    simp only [wrE] at hE'
    obtain ⟨E, hE, rfl⟩ := List.mem_map.mp (List.mem_filter.mp hE').1
    have h0 := (d3 E hE).mono (Nat.le_refl t) (Nat.le_succ u)
    simp only [hearE]
    split
    · obtain ⟨g1, g2, g3, g4, g5⟩ := h0
      refine ⟨g1, g2, fun d hd => ?_, fun d hd => ?_, g5⟩
      · simp only [Option.some.injEq] at hd
        cases h7 : E.2.2.2.1 with
        | none =>
          rw [h7] at hd
          refine ⟨u, by omega, ?_⟩
          rw [← hd]
          show nI (u + 1) - 1 = nI u
          exact nI_pred u
        | some w => rw [h7] at hd; exact g3 d (by rw [h7, ← hd]; rfl)
      · simp only [Option.some.injEq] at hd
        rw [hcm] at hd
        cases h7 : E.2.2.2.2.1 with
        | none => rw [h7] at hd; exact ⟨t + lg, by omega, hd.symm⟩
        | some w =>
          rw [h7] at hd
          by_cases h8 : nI (t + lg) < w
          · simp only [h8, ↓reduceIte] at hd; exact ⟨t + lg, by omega, hd.symm⟩
          · simp only [h8, ↓reduceIte] at hd; exact g4 d (by rw [h7, hd])
    · exact h0
  have f49 : ∀ a, (a = 4 ∨ a = 5 ∨ (48 ≤ a ∧ a ≤ 56)) → N a = M a := fun a ha => p5 a (by omega) (by omega) (by omega)
  have f6 : ∀ a, 6 ≤ a → a ≤ 16 → n a = m a := fun a h1 h2 => q5 a (by omega) (by omega) (by omega)
  refine ⟨N, n, e1, e2, ⟨⟨p2, by rw [q4 8 (by omega) (by omega)]; exact a2, p3, q2⟩, ⟨?_, ?_, ?_, ?_, ?_, ?_, ?_, ?_, ?_⟩, ⟨?_, ?_, ?_, ?_, ?_⟩, wrE s (nI t) (nI (u + 1)) (m 7) (m 10) L, p1, q1, hEG⟩, p4, q3, p5, q5, q4⟩
  all_goals (try simp (disch := omega) only [f49, f6])
  all_goals assumption
theorem WR.write (hfu : 5000 ≤ fu) (hs : s < 6) (h : WR M m t u RR) (ht : t < 2 ^ 29) (hu : u < 2 ^ 29) : ∃ N n, f_X7_write fu (nI s) M = some N ∧ f_X11_writes fu (nI s) m = some n ∧ WR N n t (u + 1) RR ∧ FCw N M ∧ FMw n m := by
  obtain ⟨hk, hS, hG, h58, h60, h57⟩ := h
  obtain ⟨N, n, e1, e2, g1, g2, g3, g4, g5, g6⟩ := write2 hfu hs hk ht hu
  refine ⟨N, n, e1, e2, ⟨g1, fun s' hs' => ⟨(hS s' hs').1.cg ?_ ?_ ?_, (hS s' hs').2.cg ?_ ?_ ?_⟩, fun s' hs' => ?_, ?_, ?_, ?_⟩, fun a ha => g4 a (by omega) (by omega) (by omega), fun a h1 h2 => g5 a (by omega) (by omega) h2, fun j h1 h2 h3 => g6 j h2 h3, fun s' a _ e ha => ⟨a, Nat.le_refl _, ha, by rw [g5 4 (by omega) (by omega) (by omega)]; exact e⟩⟩
  · rw [g4 _ (by omega) (by omega) (by omega)]
  · rw [g4 _ (by omega) (by omega) (by omega)]
  · rw [g4 _ (by omega) (by omega) (by omega)]
  · rw [g5 _ (by omega) (by omega) (by omega)]
  · rw [g5 _ (by omega) (by omega) (by omega)]
  · rw [g5 _ (by omega) (by omega) (by omega)]
  · obtain ⟨a1, a2, a3, a4, w, a5, a6⟩ := hG s' hs'
    refine ⟨a1, a2, a3, by rw [g5 4 (by omega) (by omega) (by omega)]; exact a4, ?_⟩
    rw [g3]
    by_cases hss : s' = s
    · subst hss; exact ⟨u + 1, by omega, pk_us⟩
    · exact ⟨w, by omega, by rw [pk_un hss]; exact a6⟩
  · rw [g4 58 (by omega) (by omega) (by omega), g5 4 (by omega) (by omega) (by omega)]; exact h58
  · rw [g2, g3, h60]
  · rw [g4 57 (by omega) (by omega) (by omega), g6 6 (by omega) (by omega)]; exact h57
theorem SR.cgC (h : SR M m RR) (h1 : ∀ a, 62 ≤ a → a ≤ 79 → N a = M a) : SR N m RR := fun s hs => ⟨(h s hs).1.cg (by rw [h1 _ (by omega) (by omega)]) (h1 _ (by omega) (by omega)) (h1 _ (by omega) (by omega)), (h s hs).2⟩
theorem SR.cgM (h : SR M m RR) (h1 : n 1 = m 1) (h2 : n 2 = m 2) (h3 : n 3 = m 3) : SR M n RR := fun s hs => ⟨(h s hs).1, (h s hs).2.cg (by rw [h1]) h2 h3⟩
theorem addRow_eq {a b c d : Int32} (hfu : 5000 ≤ fu) (hs : s < 6) (h : RC M (62 + 3 * s) R) (hl : R.length < 12) {M0 : Mem} (hM0 : M0 = if s < 2 then up M 58 s (M 58 s + 1) else M) (hmk : mk = if s < 2 then M 58 s else a) : f_X7_addRow fu (nI s) a b c d M = bd (f_X7_write fu (nI s) (insM (up M0 57 6 (M 57 6 + lo s b)) (62 + 3 * s) R (mk, a, stv s b, c, d))) (fun N => some (mk, N)) := by
  have e0 : f_X7_addRow fu (nI s) a b c d M = jn mk (fun x6 => bm (f_X6_makePlace fu (62 + 3 * s) x6 M0) (fun r_7 M_8 => bd (f_X6_putCell fu (62 + 3 * s) r_7 0 a M_8) (fun M_11 => bm (f_X7_asStored fu (nI s) b M_11) (fun r_14 M_15 => bd (f_X6_putCell fu (62 + 3 * s) r_7 1 r_14 M_15) (fun M_17 => bd (f_X6_putCell fu (62 + 3 * s) r_7 2 c M_17) (fun M_20 => bd (f_X6_putCell fu (62 + 3 * s) r_7 3 d M_20) (fun M_23 => bd (f_X7_write fu (nI s) M_23) (fun M_25 => some (x6, M_25))))))))) := by
    simp (disch := omega) only [f_X7_addRow, nm_d, jn_d, inb_nI, grd_true, nI_clamp, sto0 hs, Nat.reduceAdd]
    by_cases h2 : s < 2
    · rw [if_pos h2, hM0, hmk, if_pos h2, if_pos h2]
    · rw [if_neg h2, hM0, hmk, if_neg h2, if_neg h2]
  have f0 : ∀ i, i ≠ 58 → M0 i = M i := fun i hi => by
    rw [hM0]
    split
    · rw [up_n hi]
    · rfl
  have h0 : RC M0 (62 + 3 * s) R := h.cg (by rw [f0 _ (by omega)]) (f0 _ (by omega)) (f0 _ (by omega))
  rw [e0, jn_d, makePlace_eq hfu h0 hl, bm_some]
  have hq := pl_le (f := mkf R) (m := mk) (n := R.length)
  generalize hq0 : pl (mkf R) mk R.length = q at hq ⊢
  generalize hN : row (row (up M0 (62 + 3 * s) 2 (nI (R.length + 1))) (62 + 3 * s + 1) (upd (shk 1 (M0 (62 + 3 * s + 1)) q R.length) q mk)) (62 + 3 * s + 2) (shk 4 (M0 (62 + 3 * s + 2)) (4 * q) (4 * R.length)) = N
  have hN2 : N (62 + 3 * s) 2 = nI (R.length + 1) := by rw [← hN, row_n (by omega), row_n (by omega), up_s]
  have hN57 : N 57 = M 57 := by rw [← hN, row_n (by omega), row_n (by omega), up_n (by omega), f0 _ (by omega)]
  have pc (fu : Nat) (N : Mem) (c : Nat) (v : Int32) (hh : c < 4) (hR : N (62 + 3 * s) 2 = nI (R.length + 1)) := putCell_eq (fu := fu) (a := 62 + 3 * s) (M := N) (c := c) (v := v) hR (by omega) (show q < R.length + 1 by omega) hh
  simp only [lit]
  rw [pc _ _ 0 _ (by omega) hN2, bd_some, asStored_eq hs, bm_some]
  rw [up_n (show 57 ≠ 62 + 3 * s + 2 by omega), hN57]
  rw [pc _ _ 1 _ (by omega) (by rw [up_n (by omega), up_n (by omega)]; exact hN2), bd_some]
  rw [pc _ _ 2 _ (by omega) (by rw [up_n (by omega), up_n (by omega), up_n (by omega)]; exact hN2), bd_some]
  rw [pc _ _ 3 _ (by omega) (by rw [up_n (by omega), up_n (by omega), up_n (by omega), up_n (by omega)]; exact hN2), bd_some]
  congr 2
  rw [← hN]
  simp only [insM, hq0]
  funext i
  by_cases i2 : i = 62 + 3 * s + 2
  · subst i2
    simp (disch := omega) only [up_r, up_n, row_s, row_n]
    simp only [pu4, Nat.add_zero]
  · by_cases i1 : i = 62 + 3 * s + 1
    · subst i1; simp (disch := omega) only [up_r, up_n, row_s, row_n]
    · by_cases i0 : i = 62 + 3 * s
      · subst i0; simp (disch := omega) only [up_r, up_n, row_s, row_n]
      · by_cases i57 : i = 57
        · subst i57; simp (disch := omega) only [up_r, up_n, row_n]
        · simp (disch := omega) only [up_n, row_n]
theorem adds_eq {a b c d : Int32} (hfu : 5000 ≤ fu) (hs : s < 6) (h : RM m s R) (hl : R.length < 12) (hb : okc b) (hmk : mk = if s < 2 then m 4 s else a) : f_X11_adds fu (nI s) a b c d m = bd (f_X11_writes fu (nI s) (minsM (up (if s < 2 then up m 4 s (m 4 s + 1) else m) 0 6 (m 0 6 + lo s b)) s R (mk, a, stv s b, c, d))) (fun N => some (mk, N)) := by
  have e0 : up m 4 s (m 4 s + 0) = m := up_self (by grind)
  have hs1 : (nI s ≤ 1) = (s < 2) := propext (by rw [lit, nI_leI (by omega) (by omega)]; omega)
  simp (disch := omega) only [f_X11_adds, nm_d, jn_d, inb_nI, grd_true, nI_clamp, hs1]
  have e1 : ∀ M', f_X11_kept fu (nI s) 1 b M' = some (stv s b, up M' 0 6 (M' 0 6 + lo s b)) := fun M' => kept_eq (c := 1) hs (fun _ => rfl) hb (by omega)
  by_cases h2 : s < 2
  · simp only [h2, ↓reduceIte] at hmk ⊢
    rw [e1, bm_some]
    have h3 : RM (up (up m 4 s (m 4 s + 1)) 0 6 (up m 4 s (m 4 s + 1) 0 6 + lo s b)) s R := h.cg (by rw [up_n (by omega), up_n (by omega)]) (by rw [up_n (by omega), up_n (by omega)]) (by rw [up_n (by omega), up_n (by omega)])
    have h4 := minserts_eq (r := (m 4 s, a, stv s b, c, d)) hfu h3 hs hl
    simp only at h4
    rw [h4, ← hmk, up_n (by omega)]
  · simp only [h2, ↓reduceIte] at hmk ⊢
    rw [e0, e1, bm_some]
    have h3 : RM (up m 0 6 (m 0 6 + lo s b)) s R := h.cg (by rw [up_n (by omega)]) (by rw [up_n (by omega)]) (by rw [up_n (by omega)])
    have h4 := minserts_eq (r := (a, a, stv s b, c, d)) hfu h3 hs hl
    simp only at h4
    rw [h4, ← hmk]
end Sources
