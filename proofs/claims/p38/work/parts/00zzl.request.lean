/-! ===== a step's request: both ===== -/
def STB (M m : Mem) (i : Nat) : Prop := M 123 i = m 58 i ∧ M 124 i = m 59 i ∧ (∃ s, s < 6 ∧ m 59 i = nI s) ∧ (m 58 i = 0 ∨ m 58 i = 1 ∨ m 58 i = 2) ∧ M 125 (4 * i) = m 60 i ∧ M 125 (4 * i + 1) = m 61 i ∧ M 125 (4 * i + 2) = m 62 i ∧ M 125 (4 * i + 3) = m 63 i
def RUN (M m : Mem) (t u q i : Nat) (H : Nat → Nat → List Row) : Prop := WR M m t u (H i) ∧ (∀ k, k < q → STB M m k) ∧ (∀ k, k < i → M 126 k = 1 ∧ UN M m k (H k) (H (k + 1))) ∧ ∀ k, i ≤ k → k < q → M 126 k = 0
def FCv (N M : Mem) : Prop := ∀ a, (a = 54 ∨ a = 59 ∨ (80 ≤ a ∧ a ≤ 125)) → N a = M a
def FMv (n m : Mem) : Prop := (∀ a, 16 < a → a < 30 ∨ 41 < a → a ≠ 64 → a ≠ 65 → n a = m a) ∧ ∀ j, j ≠ 6 → j ≠ 7 → j ≠ 8 → j ≠ 39 → n 0 j = m 0 j
def nx (H : Nat → Nat → List Row) (i : Nat) (B : Nat → List Row) : Nat → Nat → List Row := fun k => if k ≤ i then H k else B
section ReqB
variable {fu nS nL nC nO i j s t u e p c k q : Nat} {M m N n P o : Mem} {RR RR' A B : Nat → List Row} {R : List Row} {r : Row} {v x p1 p2 p3 p4 p5 p6 : Int32} {H : Nat → Nat → List Row}
theorem nx_le (h : k ≤ i) : nx H i B k = H k := by simp only [nx, h, if_true]
theorem nx_s : nx H i B (i + 1) = B := by simp only [nx, show ¬ i + 1 ≤ i by omega, if_false]
theorem FCv.rfl : FCv M M := fun _ _ => Eq.refl _
theorem FMv.rfl : FMv m m := ⟨fun _ _ _ _ _ => Eq.refl _, fun _ _ _ _ _ => Eq.refl _⟩
theorem FCv.trans (h : FCv N P) (h' : FCv P M) : FCv N M := fun a ha => by rw [h a ha, h' a ha]
theorem FMv.trans (h : FMv n o) (h' : FMv o m) : FMv n m := ⟨fun a h1 h2 h3 h4 => by rw [h.1 a h1 h2 h3 h4, h'.1 a h1 h2 h3 h4], fun j h1 h2 h3 h4 => by rw [h.2 j h1 h2 h3 h4, h'.2 j h1 h2 h3 h4]⟩
theorem FCt.vv (h : FCt N M) : FCv N M := fun a ha => h a (by omega) (by omega) (by omega) (by omega) (by omega) (by omega)
theorem FMt.vv (h : FMt n m) : FMv n m := ⟨fun a h1 h2 h3 h4 => h.1 a (by omega) h2 (by omega) (by omega) (by omega), fun j h1 h2 h3 h4 => h.2 j h3 h4⟩
theorem FCd.vv (h : FCd j N M) : FCv N M := fun a ha => h.1 a (by omega)
theorem FMd.vv (h : FMd j n m) : FMv n m := ⟨fun a h1 h2 h3 h4 => h.1 a (by omega) h2 h3 h4, fun j h1 h2 h3 h4 => h.2.1 j h1 h2 h4⟩
theorem FCw.vv (h : FCw N M) : FCv N M := fun a ha => h a (by omega)
theorem FMw.vv (h : FMw n m) : FMv n m := ⟨fun a h1 h2 h3 h4 => h.1 a (by omega) h2, fun j h1 h2 h3 h4 => h.2.1 j h1 h2 h4⟩
theorem STB.cg (h : STB M m i) (hC : FCv N M) (hM : FMv n m) : STB N n i := by
  simp only [STB] at h ⊢
  rw [hC 123 (by omega), hC 124 (by omega), hC 125 (by omega), hM.1 58 (by omega) (by omega) (by omega) (by omega), hM.1 59 (by omega) (by omega) (by omega) (by omega), hM.1 60 (by omega) (by omega) (by omega) (by omega), hM.1 61 (by omega) (by omega) (by omega) (by omega), hM.1 62 (by omega) (by omega) (by omega) (by omega), hM.1 63 (by omega) (by omega) (by omega) (by omega)]
  exact h
theorem WR.n4 (h : WR M m t u RR) : ∀ s, s < 6 → ∃ a, a ≤ 60 ∧ m 4 s = nI a := fun s hs => by
  obtain ⟨_, _, _, ⟨a, a1, a2, _⟩, _⟩ := h.2.2.1 s hs
  exact ⟨a, a1, a2⟩
/-- after a try -/
theorem RUN.tr {t' : Nat} (h : RUN M m t u q i H) (hk : KR N n t' u) (hC : FCt N M) (hM : FMt n m) : RUN N n t' u q i H := by
  obtain ⟨h1, h2, h3, h4⟩ := h
  have e126 : N 126 = M 126 := hC 126 (by omega) (by omega) (by omega) (by omega) (by omega) (by omega)
  refine ⟨h1.of hk (fun a z1 z2 z3 => hC a (by omega) (by omega) (by omega) (by omega) (by omega) (by omega)) (fun a z1 z2 => hM.1 a (by omega) (by omega) (by omega) (by omega) (by omega)) (hM.2 6 (by omega) (by omega)), fun k hk => (h2 k hk).cg hC.vv hM.vv, fun k hk => ⟨by rw [e126]; exact (h3 k hk).1, (h3 k hk).2.cg h1.n4 ?_ ?_ ?_ ?_ ?_ (fun a ha => hC a (by omega) (by omega) (by omega) (by omega) (by omega) (by omega)) ?_ ?_ ?_ ?_ (fun y _ _ => ?_) (fun s a hs e ha => ⟨a, Nat.le_refl _, ha, ?_⟩)⟩, fun k h5 h6 => by rw [e126]; exact h4 k h5 h6⟩
  · rw [hC 123 (by omega) (by omega) (by omega) (by omega) (by omega) (by omega)]
  · rw [hC 124 (by omega) (by omega) (by omega) (by omega) (by omega) (by omega)]
  · rw [hC 125 (by omega) (by omega) (by omega) (by omega) (by omega) (by omega)]
  · rw [hC 127 (by omega) (by omega) (by omega) (by omega) (by omega) (by omega)]
  · rw [hC 128 (by omega) (by omega) (by omega) (by omega) (by omega) (by omega)]
  · rw [hM.1 58 (by omega) (by omega) (by omega) (by omega) (by omega)]
  · rw [hM.1 59 (by omega) (by omega) (by omega) (by omega) (by omega)]
  · rw [hM.1 61 (by omega) (by omega) (by omega) (by omega) (by omega)]
  · rw [hM.1 64 (by omega) (by omega) (by omega) (by omega) (by omega)]
  · rw [hM.1 65 (by omega) (by omega) (by omega) (by omega) (by omega)]
  · rw [hM.1 4 (by omega) (by omega) (by omega) (by omega) (by omega)]; exact e
/-- after a step that was done -/
theorem RUN.d (h : RUN M m t u q i H) (hi : i < q) (hW : WR N n t (u + 1) B) (hU : UN N n i (H i) B) (h1 : N 126 i = 1) (hC : FCd i N M) (hM : FMd i n m) : RUN N n t (u + 1) q (i + 1) (nx H i B) := by
  obtain ⟨g1, g2, g3, g4⟩ := h
  refine ⟨?_, fun k hk => (g2 k hk).cg hC.vv hM.vv, fun k hk => ?_, fun k h5 h6 => by rw [(hC.2 k (by omega)).1]; exact g4 k (by omega) h6⟩
  · rw [nx_s]; exact hW
  · by_cases hki : k = i
    · subst hki
      rw [nx_le (Nat.le_refl _), nx_s]
      exact ⟨h1, hU⟩
    · rw [nx_le (by omega), nx_le (by omega)]
      obtain ⟨c1, c2, c3⟩ := hC.2 k hki
      refine ⟨by rw [c1]; exact (g3 k (by omega)).1, (g3 k (by omega)).2.cg g1.n4 ?_ ?_ ?_ c2 c3 (fun a ha => hC.1 a (by omega)) ?_ ?_ ?_ (hM.2.2.1 k hki) (fun y z1 z2 => hM.2.2.2.1 y (by omega)) hM.2.2.2.2⟩
      · rw [hC.1 123 (by omega)]
      · rw [hC.1 124 (by omega)]
      · rw [hC.1 125 (by omega)]
      · rw [hM.1 58 (by omega) (by omega) (by omega) (by omega)]
      · rw [hM.1 59 (by omega) (by omega) (by omega) (by omega)]
      · rw [hM.1 61 (by omega) (by omega) (by omega) (by omega)]
theorem CAN.cg (h : CAN n A s j) (hM : FMt n m) : CAN m A s j := by
  simp only [CAN, rm] at h ⊢
  rw [hM.1 58 (by omega) (by omega) (by omega) (by omega) (by omega), hM.1 60 (by omega) (by omega) (by omega) (by omega) (by omega), hM.1 61 (by omega) (by omega) (by omega) (by omega) (by omega), hM.1 62 (by omega) (by omega) (by omega) (by omega) (by omega), hM.1 63 (by omega) (by omega) (by omega) (by omega) (by omega), hM.1 4 (by omega) (by omega) (by omega) (by omega) (by omega)] at h
  exact h
theorem can1 (hfu : 5000 ≤ fu) (hW : WR M m t u A) (hj : j < 4) (hs : s < 6) (k124 : M 124 j = nI s) (k123 : M 123 j = m 58 j) (q0 : M 125 (4 * j) = m 60 j) (q1 : M 125 (4 * j + 1) = m 61 j) (q2 : M 125 (4 * j + 2) = m 62 j) (q3 : M 125 (4 * j + 3) = m 63 j) (h : CAN m A s j) : f_X2_canStep fu (nI j) M = some 1 := by
  have hh := hasMark_eq (m := m 60 j) hfu (hW.2.1 s hs).1
  have h4 := cs_le (s := s)
  rcases h with ⟨kd, hf, hr⟩ | ⟨kd, p, r, c, hp, hr, ec, hc, hbad⟩ | ⟨kd, p, r, hp, hr⟩
  · have z := k0z kd
    obtain ⟨b1, b2⟩ := hasRoom_eq (a := m 60 j) hfu hW hs
    have hrf := rowF (a := m 60 j) (b := m 61 j) (c := m 62 j) (d := m 63 j) hs
    have hrf' : ¬ f_X10_rowFits (f_X10_storeOf (nI s)) (m 60 j) (m 61 j) (m 62 j) (m 63 j) = 0 := fun z => (hrf ▸ z) hf
    rw [canC0 hj k124 (by rw [k123]; exact z), q0, q1, q2, q3]
    simp only [hrf', if_false, b1 hr, bd_some, n10]
  · obtain ⟨z, z'⟩ := k1z kd
    have hp' : ¬ (some p = none) := by simp
    have hin : (f_X10_isIn (nI c) 0 (nI (cs s) - 1) = 0) = (nI c < 0 ∨ nI (cs s) ≤ nI c) := inm1 (by omega)
    have hmay := mayCh (v := m 62 j) hs (show c < 4 by omega)
    rw [canC1 hj hs k124 (by rw [k123]; exact z) (by rw [k123]; exact z'), q0, q1, q2, hh, bd_some, hp, if_neg hp', if_neg (show ¬ (1 : Int32) = 0 from by decide), colF hs, ec, if_neg (fun y => good (b := cs s) (by omega) hc (hin ▸ y)), if_neg (fun y => hbad (hmay ▸ y))]
  · obtain ⟨z, z'⟩ := k2z kd
    have hp' : ¬ (some p = none) := by simp
    rw [canC2 hj hs k124 (by rw [k123]; exact z) (by rw [k123]; exact z'), q0, hh, bd_some, hp, if_neg hp']
    rfl
/-- a step, once it may be done: either it is, or it can't be -/
theorem RUN.step (hfu : 5000 ≤ fu) (h : RUN M m t u q i H) (hi : i < q) (hq : q ≤ 4) (hs : s < 6) (k59 : m 59 i = nI s) (ht : t < 2 ^ 29) (hu : u < 2 ^ 29) : (∃ N n B, f_X2_canStep fu (nI i) M = some 1 ∧ f_X11_canStep fu (nI i) m = some 1 ∧ f_X2_doStep fu (nI i) M = some N ∧ f_X11_doesStep fu (nI i) m = some n ∧ RUN N n t (u + 1) q (i + 1) (nx H i B) ∧ FCv N M ∧ FMv n m ∧ N 53 = M 53 ∧ n 12 = m 12) ∨ (¬ CAN m (H i) s i ∧ f_X2_canStep fu (nI i) M = some 0 ∧ f_X11_canStep fu (nI i) m = some 0) := by
  obtain ⟨a1, a2, a3, a4, a5, a6, a7, a8⟩ := h.2.1 i hi
  have hc := can2 hfu h.1 (show i < 4 by omega) hs k59 (by rw [a2]; exact k59) a1 a4 a5 a6 a7 a8
  by_cases hcan : CAN m (H i) s i
  · obtain ⟨N, n, B, d1, d2, d3, d4, d5, d6, d7⟩ := do2 hfu h.1 (show i < 4 by omega) hs k59 (by rw [a2]; exact k59) a1 a5 a6 a7 a8 ht hu hcan
    rcases hc with ⟨_, c1, c2⟩ | ⟨c1, c2⟩
    · refine Or.inl ⟨N, n, B, c1, c2, d1, d2, h.d hi d3 d4 d5 d6 d7, d6.vv, d7.vv, ?_, d7.1 12 (by omega) (by omega) (by omega) (by omega)⟩
      have e1 := h.1.1.2.1.2.2.2.2.2.2.1
      have e2 := d3.1.2.1.2.2.2.2.2.2.1
      rw [e1, e2]
      exact d7.1 12 (by omega) (by omega) (by omega) (by omega)
    · exact absurd (c1.symm.trans (can1 hfu h.1 (show i < 4 by omega) hs (by rw [a2]; exact k59) a1 a5 a6 a7 a8 hcan)) (by decide)
  · rcases hc with ⟨c0, _⟩ | ⟨c1, c2⟩
    · exact absurd c0 hcan
    · exact Or.inr ⟨hcan, c1, c2⟩
end ReqB
