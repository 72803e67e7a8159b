/-! ===== the time: the law and the reference ===== -/
def TL (M m : Mem) (t u : Nat) : Prop := (M 152 1 = nI t ∧ m 0 8 = nI t ∧ m 0 7 = nI u) ∧ (∃ L sr kt, EM m L ∧ EG t u L ∧ LCk M u sr kt L ∧ HIST M t u sr kt ∧ ∀ s, s < 6 → m 5 s = nI (lw sr s u))
/-- and no entry is gone that is there -/
def TN (M m : Mem) (t u : Nat) : Prop := (M 152 1 = nI t ∧ m 0 8 = nI t ∧ m 0 7 = nI u) ∧ (∃ L sr kt, EM m L ∧ EG t u L ∧ LCk M u sr kt L ∧ HIST M t u sr kt ∧ (∀ s, s < 6 → m 5 s = nI (lw sr s u)) ∧ ∀ E ∈ L, gone (nI t) (m 10) E = false)
def PL (M m : Mem) : Prop := ∀ j, j < 3 → M 145 j = m 6 j ∧ M 145 (3 + j) = m 7 j ∧ M 145 (6 + j) = m 8 j ∧ M 145 (9 + j) = m 9 j ∧ M 145 (12 + j) = m 10 j ∧ M 145 (15 + j) = m 11 j ∧ M 145 (18 + j) = m 12 j ∧ M 145 (21 + j) = m 13 j ∧ M 145 (24 + j) = m 14 j ∧ (∃ k, k ≤ 20 ∧ m 11 j = nI k) ∧ ∃ k, k ≤ 200 ∧ m 10 j = nI k
def FLt (N M : Mem) : Prop := (∀ a, a ≠ 147 → a ≠ 148 → a ≠ 152 → N a = M a) ∧ ∀ j, j ≠ 1 → j ≠ 3 → N 152 j = M 152 j
section TimeL
variable {fu t u d s : Nat} {M m N n : Mem} {sr kt : Nat → Nat} {L : List Ent}
theorem FLt.rfl : FLt M M := ⟨fun _ _ _ _ => Eq.refl _, fun _ _ _ => Eq.refl _⟩
theorem FLt.trans {P : Mem} (h : FLt N P) (h' : FLt P M) : FLt N M := ⟨fun a h1 h2 h3 => by rw [h.1 a h1 h2 h3, h'.1 a h1 h2 h3], fun j h1 h2 => by rw [h.2 j h1 h2, h'.2 j h1 h2]⟩
theorem LCk.cg (h : LCk M u sr kt L) (h1 : N 147 = M 147) (h2 : N 148 = M 148) (h3 : N 152 3 = M 152 3) : LCk N u sr kt L := ⟨by rw [h3]; exact h.1, h.2.1, fun k E hk => (h.2.2 k E hk).cg (fun _ _ => by rw [h1]) (fun _ _ => by rw [h2])⟩
theorem TL.cg (h : TL M m t u) (h1 : N 147 = M 147) (h2 : N 148 = M 148) (h3 : N 144 = M 144) (h4 : N 152 0 = M 152 0 ∧ N 152 1 = M 152 1 ∧ N 152 3 = M 152 3) (g1 : n 0 7 = m 0 7) (g2 : n 0 8 = m 0 8) (g3 : n 0 39 = m 0 39) (g4 : n 5 = m 5) (g5 : ∀ a, 30 ≤ a → a ≤ 41 → n a = m a) : TL N n t u := by
  obtain ⟨⟨a1, a2, a3⟩, L, sr, kt, b1, b2, b3, b4, b5⟩ := h
  exact ⟨⟨by rw [h4.2.1]; exact a1, by rw [g2]; exact a2, by rw [g1]; exact a3⟩, L, sr, kt, b1.cg g3 g5, b2, b3.cg h1 h2 h4.2.2, b4.cg h3 h4.1 (Nat.le_refl _), fun s hs => by rw [g4]; exact b5 s hs⟩
theorem PL.cg (h : PL M m) (h1 : N 145 = M 145) (h2 : ∀ a, 6 ≤ a → a ≤ 14 → n a = m a) : PL N n := fun j hj => by
  rw [h1, h2 6 (by omega) (by omega), h2 7 (by omega) (by omega), h2 8 (by omega) (by omega), h2 9 (by omega) (by omega), h2 10 (by omega) (by omega), h2 11 (by omega) (by omega), h2 12 (by omega) (by omega), h2 13 (by omega) (by omega), h2 14 (by omega) (by omega)]
  exact h j hj
theorem TN.tl (h : TN M m t u) : TL M m t u := by
  obtain ⟨a, L, sr, kt, b1, b2, b3, b4, b5, b6⟩ := h
  exact ⟨a, L, sr, kt, b1, b2, b3, b4, b5⟩
theorem TN.cg (h : TN M m t u) (h1 : N 147 = M 147) (h2 : N 148 = M 148) (h3 : N 144 = M 144) (h4 : N 152 0 = M 152 0 ∧ N 152 1 = M 152 1 ∧ N 152 3 = M 152 3) (g1 : n 0 7 = m 0 7) (g2 : n 0 8 = m 0 8) (g3 : n 0 39 = m 0 39) (g4 : n 5 = m 5) (g5 : ∀ a, 30 ≤ a → a ≤ 41 → n a = m a) (g6 : n 10 = m 10) : TN N n t u := by
  obtain ⟨⟨a1, a2, a3⟩, L, sr, kt, b1, b2, b3, b4, b5, b6⟩ := h
  exact ⟨⟨by rw [h4.2.1]; exact a1, by rw [g2]; exact a2, by rw [g1]; exact a3⟩, L, sr, kt, b1.cg g3 g5, b2, b3.cg h1 h2 h4.2.2, b4.cg h3 h4.1 (Nat.le_refl _), (fun s hs => by rw [g4]; exact b5 s hs), fun E hE => by rw [g6]; exact b6 E hE⟩
theorem ng_filter {ls : Nat → Int32} {now : Int32} : ∀ E ∈ L.filter (fun E => !gone now ls E), gone now ls E = false := fun E hE => by
  have := (List.mem_filter.mp hE).2
  simpa using this
theorem TL.gt (h : TL M m t u) : M 152 0 = nI u ∧ u < 64 := by
  obtain ⟨_, L, sr, kt, _, _, _, b4, _⟩ := h
  exact ⟨b4.1, b4.2.1⟩
/-- entries go: the law and the reference -/
theorem drop_L (hfu : 5000 ≤ fu) (h : TL M m t u) (ht : t < 2 ^ 27) (hls : ∀ j, j < 3 → M 145 (12 + j) = m 10 j) : ∃ N n, f_L_age fu M = some N ∧ f_X11_drops fu m = some n ∧ TN N n t u ∧ FLt N M ∧ N 152 1 = M 152 1 ∧ (∀ a, 0 < a → a < 30 ∨ 41 < a → n a = m a) ∧ ∀ j, j ≠ 39 → n 0 j = m 0 j := by
  obtain ⟨⟨a1, a2, a3⟩, L, sr, kt, b1, b2, b3, b4, b5⟩ := h
  obtain ⟨N, e1, c1, c2, c3⟩ := age_ok (ls := m 10) hfu b4 b3 a1 (by omega) ht hls
  obtain ⟨n, e2, d1, d2, d3⟩ := drops_ok (ls := m 10) hfu a2 (fun _ _ => rfl) (b2.drop1 (by omega)) b1
  exact ⟨N, n, e1, e2, ⟨⟨by rw [c3 1 (by omega)]; exact a1, by rw [d3 8 (by omega)]; exact a2, by rw [d3 7 (by omega)]; exact a3⟩, _, sr, kt, d1, b2.filter, c1, b4.cg (c2 144 (by omega) (by omega) (by omega)) (c3 0 (by omega)) (Nat.le_refl _), (fun s hs => by rw [d2 5 (by omega) (by omega)]; exact b5 s hs), by rw [d2 10 (by omega) (by omega)]; exact ng_filter⟩, ⟨c2, fun j _ h2 => c3 j h2⟩, c3 1 (by omega), d2, d3⟩
/-- the time goes on -/
theorem goes_L (hfu : 5000 ≤ fu) (h : TL M m t u) (hP : PL M m) (ht : t + d < 2 ^ 27) : ∃ N n, f_L_age fu (up M 152 1 (nI (t + d))) = some N ∧ f_X11_goes fu (nI d) m = some n ∧ TN N n (t + d) u ∧ PL N n ∧ FLt N M ∧ FM1 n m := by
  obtain ⟨⟨a1, a2, a3⟩, L, sr, kt, b1, b2, b3, b4, b5⟩ := id h
  have h1 : TL (up M 152 1 (nI (t + d))) (up m 0 8 (nI (t + d))) (t + d) u := ⟨⟨up_s, up_s, by rw [up_m (by omega)]; exact a3⟩, L, sr, kt, b1.cg (by rw [up_m (by omega)]) (fun i _ _ => up_n (by omega)), b2.mono (by omega) (Nat.le_refl _), b3.cg (up_n (by omega)) (up_n (by omega)) (up_m (by omega)), b4.cg (up_n (by omega)) (up_m (by omega)) (by omega), fun s hs => by rw [up_n (by omega)]; exact b5 s hs⟩
  obtain ⟨N, n, e1, e2, c1, c2, c3, c4, c5⟩ := drop_L hfu h1 (by omega) (fun j hj => by rw [up_n (by omega), up_n (by omega)]; exact (hP j hj).2.2.2.2.1)
  refine ⟨N, n, e1, ?_, c1, ?_, ⟨fun a h1 h2 h3 => by rw [c2.1 a h1 h2 h3, up_n h3], fun j h1 h2 => by rw [c2.2 j h1 h2, up_m h1]⟩, fun a h1 h2 => by rw [c4 a h1 h2, up_n (by omega)], fun j h1 h2 => by rw [c5 j h2, up_m h1]⟩
  · simp only [f_X11_goes, nm_d, a2, nI_add, e2, bd_some]
  · exact hP.cg (by rw [c2.1 145 (by omega) (by omega) (by omega), up_n (by omega)]) (fun a _ _ => by rw [c4 a (by omega) (by omega), up_n (by omega)])
theorem EG_wr {lg0 : Nat} (d3 : EG t u L) (hcm : nI t + m 7 (s / 2) = nI (t + lg0)) (hl : lg0 ≤ 60) : EG t (u + 1) (wrE s (nI t) (nI (u + 1)) (m 7) (m 10) L) := by
  intro E' hE'
  simp only [wrE] at hE'
  obtain ⟨E, hE, rfl⟩ := List.mem_map.mp (List.mem_filter.mp hE').1
  have h0 := (d3 E hE).mono (Nat.le_refl t) (Nat.le_succ u)
  simp only [hearE]
  split
  · obtain ⟨g1, g2, g3, g4, g5⟩ := h0
    refine ⟨g1, g2, fun d hd => ?_, fun d hd => ?_, g5⟩
    · simp only [Option.some.injEq] at hd
      cases h7 : E.2.2.2.1 with
      | none =>
        rw [h7] at hd
        refine ⟨u, by omega, ?_⟩
        rw [← hd]
        show nI (u + 1) - 1 = nI u
        exact nI_pred u
      | some w => rw [h7] at hd; exact g3 d (by rw [h7, ← hd]; rfl)
    · simp only [Option.some.injEq] at hd
      rw [hcm] at hd
      cases h7 : E.2.2.2.2.1 with
      | none => rw [h7] at hd; exact ⟨t + lg0, by omega, hd.symm⟩
      | some w =>
        rw [h7] at hd
        by_cases h8 : nI (t + lg0) < w
        · simp only [h8, ↓reduceIte] at hd; exact ⟨t + lg0, by omega, hd.symm⟩
        · simp only [h8, ↓reduceIte] at hd; exact g4 d (by rw [h7, hd])
  · exact h0
/-- a write is heard of by the law's entries -/
theorem LEnt_wr {k lg0 : Nat} {E : Ent} (h : LEnt M k u sr kt E) (hE : E1 t u E) (hkt : ∀ i, 1 ≤ i → i ≤ u → kt i < 2 ^ 29) (hc : t + lg0 < 2 ^ 29) (hu : u < 2 ^ 29) : LEnt M k (u + 1) (setN sr (u + 1) s) (setN kt (u + 1) (t + lg0)) (hearE s (nI (t + lg0)) (nI (u + 1)) E) := by
  obtain ⟨g, g1, ⟨a1, a2, a3, a4, a5⟩, ⟨b1, b2⟩, c1, c2, c3, c4, c5, c6, c7⟩ := h
  have q1 : ∀ i, i ≤ u → setN sr (u + 1) s i = sr i := fun i hi => by simp only [setN]; rw [if_neg (by omega)]
  have q2 : ∀ i, i ≤ u → setN kt (u + 1) (t + lg0) i = kt i := fun i hi => by simp only [setN]; rw [if_neg (by omega)]
  have q3 : setN sr (u + 1) s (u + 1) = s := by simp [setN]
  have q4 : setN kt (u + 1) (t + lg0) (u + 1) = t + lg0 := by simp [setN]
  have f1 : fw (setN sr (u + 1) s) E.1 g (u + 1) = match fw sr E.1 g u with | some i => some i | none => if E.1 = s then some (u + 1) else none := by
    simp only [fw, fw_cg q1, q3, show g < u + 1 by omega, true_and]
    cases fw sr E.1 g u with
    | some i => rfl
    | none =>
      by_cases z : E.1 = s
      · simp [z]
      · have z' : ¬ s = E.1 := fun e => z e.symm
        simp [z, z']
  have f2 : mk (setN sr (u + 1) s) (setN kt (u + 1) (t + lg0)) E.1 g (u + 1) = if E.1 = s then some (match mk sr kt E.1 g u with | some d => if t + lg0 < d then t + lg0 else d | none => t + lg0) else mk sr kt E.1 g u := by
    simp only [mk, mk_cg q1 q2, q3, q4, show g < u + 1 by omega, true_and]
    by_cases z : E.1 = s
    · rw [if_pos z.symm, if_pos z]
      cases mk sr kt E.1 g u <;> rfl
    · have z' : ¬ s = E.1 := fun e => z e.symm
      simp [z, z']
  have f3 : lw (setN sr (u + 1) s) E.1 g = lw sr E.1 g := lw_cg (fun i hi => q1 i (by omega))
  simp only [hearE]
  by_cases hs : E.1 = s
  · rw [if_pos hs]
    refine ⟨g, by omega, ⟨a1, a2, a3, a4, a5⟩, ⟨b1, b2⟩, by rw [c1]; show _ = nI (lw _ E.1 g); rw [f3], ?_, ?_, c4, c5, c6, c7⟩
    · show some (E.2.2.2.1.getD (nI (u + 1) - 1)) = (fw _ E.1 g (u + 1)).map _
      rw [f1, c2, if_pos hs]
      cases fw sr E.1 g u with
      | some i => rfl
      | none => exact congrArg some (nI_pred u)
    · show some _ = (mk _ _ E.1 g (u + 1)).map nI
      rw [f2, c3, if_pos hs]
      cases hm : mk sr kt E.1 g u with
      | none => rfl
      | some d =>
        obtain ⟨i, z1, z2, z3, z4⟩ := mk_in hm
        have hd := hkt i (by omega) z2
        rw [z4] at hd
        simp only [Option.map_some]
        congr 1
        by_cases z : t + lg0 < d
        · rw [if_pos (nI_lt z (by omega)), if_pos z]
        · rw [if_neg (nI_nlt (by omega) (by omega)), if_neg z]
  · rw [if_neg hs]
    refine ⟨g, by omega, ⟨a1, a2, a3, a4, a5⟩, ⟨b1, b2⟩, by rw [c1, f3], ?_, ?_, c4, c5, c6, c7⟩
    · rw [f1, c2, if_neg hs]
      cases fw sr E.1 g u with
      | some i => rfl
      | none => rfl
    · rw [f2, c3, if_neg hs]
def FLw (N M : Mem) : Prop := (∀ a, a ≠ 144 → a ≠ 147 → a ≠ 148 → a ≠ 152 → N a = M a) ∧ ∀ j, j ≠ 0 → j ≠ 3 → N 152 j = M 152 j
theorem written_L (hfu : 5000 ≤ fu) (h : TL M m t u) (hP : PL M m) (hG : KG m) (hs : s < 6) (ht : t < 2 ^ 26) (hu : u < 62) : ∃ N n, f_L_written fu (nI s) M = some N ∧ f_X11_writes fu (nI s) m = some n ∧ TN N n t (u + 1) ∧ PL N n ∧ FLw N M ∧ (∀ j, j ≠ 7 → j ≠ 39 → n 0 j = m 0 j) ∧ ∀ a, 0 < a → a ≠ 5 → (a < 30 ∨ 41 < a) → n a = m a := by
  obtain ⟨⟨a1, a2, a3⟩, L, sr, kt, b1, b2, b3, b4, b5⟩ := id h
  obtain ⟨lg0, l1, l2⟩ := hG.2.1 (s / 2) (by omega)
  have hcm : nI t + m 7 (s / 2) = nI (t + lg0) := by rw [l2, nI_add]
  have hu1 : nI u + 1 = nI (u + 1) := nI_add u 1
  have hne : ∀ E ∈ L, (∀ w, E.2.2.2.1 = some w → w ≠ -1) ∧ (∀ w, E.2.2.2.2.1 = some w → w ≠ -1) := fun E hE => ⟨fun w hw => by
    obtain ⟨k, k1, k2⟩ := (b2 E hE).2.2.1 w hw
    rw [k2]; exact i_nm1 (by omega), fun w hw => by
    obtain ⟨k, k1, k2⟩ := (b2 E hE).2.2.2.1 w hw
    rw [k2]; exact i_nm1 (by omega)⟩
  obtain ⟨n, e2, q1, q2, q3, q4, q5⟩ := mwrites_ok (M := m) (L := L) (lg := m 7) (ls := m 10) hfu hs a2 a3 (fun j _ => rfl) (fun j _ => rfl) (by rw [hcm]; exact i_nm1 (by omega)) hne b1
  rw [hu1] at q1 q2 q3
  have hw : nI s + (nI (t + lg0) <<< (3 &&& 31)) = nI (s + 8 * (t + lg0)) := by
    rw [show ((3 : Int32) &&& 31) = 3 by decide, pk_shlN 3 3 (by decide) (by omega), nI_add]
    congr 1
    omega
  let M1 := up (up M 152 0 (nI (u + 1))) 144 (u + 1) (nI (s + 8 * (t + lg0)))
  have hM1 : M1 = up (up M 152 0 (nI (u + 1))) 144 (u + 1) (nI (s + 8 * (t + lg0))) := rfl
  have m152 : ∀ j, j ≠ 0 → M1 152 j = M 152 j := fun j hj => by rw [hM1, up_n (by omega), up_m hj]
  have mo : ∀ a, a ≠ 144 → a ≠ 152 → M1 a = M a := fun a h1 h2 => by rw [hM1, up_n h1, up_n h2]
  have hkt : ∀ i, 1 ≤ i → i ≤ u → kt i < 2 ^ 29 := fun i z1 z2 => by have := (b4.2.2 i z1 z2).2.2; omega
  have hH : HIST M1 t (u + 1) (setN sr (u + 1) s) (setN kt (u + 1) (t + lg0)) := by
    refine ⟨by rw [hM1, up_n (by omega), up_s], by omega, fun i z1 z2 => ?_⟩
    by_cases z : i = u + 1
    · subst z
      have y1 : setN sr (u + 1) s (u + 1) = s := by simp [setN]
      have y2 : setN kt (u + 1) (t + lg0) (u + 1) = t + lg0 := by simp [setN]
      rw [y1, y2, hM1, up_s]
      exact ⟨rfl, hs, by omega⟩
    · have y1 : setN sr (u + 1) s i = sr i := by simp [setN, z]
      have y2 : setN kt (u + 1) (t + lg0) i = kt i := by simp [setN, z]
      rw [y1, y2, hM1, up_m z, up_n (by omega)]
      exact b4.2.2 i z1 (by omega)
  have hLC : LCk M1 (u + 1) (setN sr (u + 1) s) (setN kt (u + 1) (t + lg0)) (L.map (hearE s (nI (t + lg0)) (nI (u + 1)))) := by
    refine ⟨by rw [m152 3 (by omega), List.length_map]; exact b3.1, by rw [List.length_map]; exact b3.2.1, fun k E hk => ?_⟩
    rw [List.getElem?_map] at hk
    cases hL : L[k]? with
    | none => rw [hL] at hk; cases hk
    | some E0 =>
      rw [hL] at hk
      cases hk
      refine LEnt_wr (t := t) ((b3.2.2 k E0 hL).cg (fun _ _ => by rw [mo 147 (by omega) (by omega)]) (fun _ _ => by rw [mo 148 (by omega) (by omega)])) (b2 E0 (List.mem_of_getElem? hL)) hkt (by omega) (by omega)
  obtain ⟨N, e1, c1, c2, c3⟩ := age_ok (M := M1) (ls := m 10) hfu hH hLC (by rw [m152 1 (by omega)]; exact a1) (by omega) (by omega) (fun j hj => by rw [mo 145 (by omega) (by omega)]; exact (hP j hj).2.2.2.2.1)
  have z5 : M 145 (3 + s / 2) = nI lg0 := by rw [(hP (s / 2) (by omega)).2.1]; exact l2
  refine ⟨N, n, ?_, e2, ⟨⟨by rw [c3 1 (by omega), m152 1 (by omega)]; exact a1, by rw [q4 8 (by omega) (by omega)]; exact a2, q2⟩, _, _, _, q1, EG_wr b2 hcm l1, ?_, hH.cg (c2 144 (by omega) (by omega) (by omega)) (c3 0 (by omega)) (Nat.le_refl _), (fun s' hs' => ?_), ?_⟩, hP.cg (by rw [c2 145 (by omega) (by omega) (by omega), mo 145 (by omega) (by omega)]) (fun a _ _ => q5 a (by omega) (by omega) (by omega)), ⟨fun a z1 z2 z3 z4 => by rw [c2 a z2 z3 z4, mo a z1 z4], fun j z1 z2 => by rw [c3 j z2, m152 j z1]⟩, q4, q5⟩
  · have e3 : nI s / 2 = nI (s / 2) := pk_div (d := 2) (by omega) (by omega) (by omega)
    have e4 : (3 : Int32) + nI (s / 2) = nI (3 + s / 2) := nI_add 3 _
    simp (disch := omega) only [f_L_written, nm_d, b4.1, hu1, e3, e4, inb_nI, grd_true, up_s, up_n, up_m, nI_clamp, a1, z5, nI_add, hw]
    rw [← hM1, e1, bd_some]
  · have : wrE s (nI t) (nI (u + 1)) (m 7) (m 10) L = (L.map (hearE s (nI (t + lg0)) (nI (u + 1)))).filter (fun E => !gone (nI t) (m 10) E) := by simp only [wrE, hcm]
    rw [this]
    exact c1
  · rw [q3]
    by_cases z : s' = s
    · subst z
      rw [show upd (m 5) s' (nI (u + 1)) s' = nI (u + 1) by simp [upd]]
      simp [lw, setN]
    · rw [show upd (m 5) s (nI (u + 1)) s' = m 5 s' by simp [upd, z], b5 s' hs']
      have z' : ¬ s = s' := fun e => z e.symm
      congr 1
      simp only [lw]
      rw [show setN sr (u + 1) s (u + 1) = s by simp [setN], if_neg z']
      exact (lw_cg (fun i hi => by simp only [setN]; rw [if_neg (by omega)])).symm
  · rw [q5 10 (by omega) (by omega) (by omega)]
    simp only [wrE]
    exact ng_filter
/-- nothing goes where nothing is to go -/
theorem age_id (hfu : 5000 ≤ fu) (h : TN M m t u) (hP : PL M m) (ht : t < 2 ^ 27) : ∃ N, f_L_age fu M = some N ∧ TN N m t u ∧ PL N m ∧ FLt N M ∧ N 152 1 = M 152 1 := by
  obtain ⟨⟨a1, a2, a3⟩, L, sr, kt, b1, b2, b3, b4, b5, b6⟩ := h
  obtain ⟨N, e1, c1, c2, c3⟩ := age_ok (ls := m 10) hfu b4 b3 a1 (by omega) ht (fun j hj => (hP j hj).2.2.2.2.1)
  have hf : L.filter (fun E => !gone (nI t) (m 10) E) = L := List.filter_eq_self.mpr (fun E hE => by rw [b6 E hE]; rfl)
  rw [hf] at c1
  exact ⟨N, e1, ⟨⟨by rw [c3 1 (by omega)]; exact a1, a2, a3⟩, L, sr, kt, b1, b2, c1, b4.cg (c2 144 (by omega) (by omega) (by omega)) (c3 0 (by omega)) (Nat.le_refl _), b5, b6⟩, hP.cg (c2 145 (by omega) (by omega) (by omega)) (fun _ _ _ => rfl), ⟨c2, fun j _ h2 => c3 j h2⟩, c3 1 (by omega)⟩
end TimeL
