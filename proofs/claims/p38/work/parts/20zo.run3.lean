/-! ===== a bundle under way: the law, the reference, the class ===== -/
def RNL (M m MC : Mem) (t u q i : Nat) (H : Nat → Nat → List Row) : Prop := RUN MC m t u q i H ∧ LR M m t u ∧ RLL M m (H i) ∧ (∀ k, k < q → SPL M m k) ∧ (∀ k, k < i → WASL M m k (H k) (H (k + 1))) ∧ (∀ k, k ≤ i → ∀ s, s < 6 → (H k s).length ≤ 6 + k ∧ okW (H k s)) ∧ m 0 0 = 0
section Run3
variable {fu t u t1 u1 k0 s i j p c k q : Nat} {M m N n P MC : Mem} {RR A B : Nat → List Row} {R : List Row} {r : Row} {v x y a b d e mk w : Int32} {H : Nat → Nat → List Row}
theorem att_L (hfu : 5000 ≤ fu) (h : LR M m t u) (hj : j < 3) (ht : t + 40 < 2 ^ 27) : ∃ N n t' b, f_L_attempt fu (nI j) 0 M = some ((if b = true then 2 else 1), N) ∧ f_X11_tries fu (nI j) 0 m = some ((if b = true then 2 else 1), n) ∧ t ≤ t' ∧ t' ≤ t + 40 ∧ LR N n t' u ∧ ∀ a, a ≠ 145 → a ≠ 147 → a ≠ 148 → a ≠ 152 → N a = M a := by
  obtain ⟨hP, hG, hT, hF⟩ := h.pl
  obtain ⟨N, n, t', b, e1, e2, e3', e4, e5, e6, e7, e8, e9, e10, e11⟩ := attempt0_L hfu hT hP hG hj ht
  refine ⟨N, n, t', b, e1, e2, e3', e4, h.set e5 e6 e7 (fun s hs => ?_) (fun a ha => e8.1 a (by omega) (by omega) (by omega) (by omega)) (fun j _ => by rw [e8.1 153 (by omega) (by omega) (by omega) (by omega)]) (fun j _ z1 z3 => e9 j z1 z3) (fun a z1 z2 _ z4 => e10.1 a (by omega) z4 (by omega) (by omega) (by omega)) (fun j _ _ z1 z2 => e11 j z1 z2) (by rw [e3_cg (e8.1 3 (by omega) (by omega) (by omega) (by omega))]; exact h.e3c), e8.1⟩
  rw [e8.1 153 (by omega) (by omega) (by omega) (by omega), e10.1 17 (by omega) (by omega) (by omega) (by omega) (by omega)]
  exact hF s hs
theorem SPL.cg (h : SPL M m k) (h1 : N 155 = M 155) (f : ∀ a, 58 ≤ a → a ≤ 63 → n a = m a) : SPL N n k := by
  simp only [SPL] at h ⊢
  rw [h1, f 58 (by omega) (by omega), f 59 (by omega) (by omega), f 60 (by omega) (by omega), f 61 (by omega) (by omega), f 62 (by omega) (by omega), f 63 (by omega) (by omega)]
  exact h
theorem WASL.cg (h : WASL M m k A B) (h1 : lg (N 157) k = lg (M 157) k) (g1 : n 59 k = m 59 k) (g2 : n 64 k = m 64 k) (g3 : n 58 k = m 58 k) : WASL N n k A B := fun s r hs z1 z2 z3 => by
  rw [h1]
  rw [g1] at z1
  rw [g2] at z2
  rw [g3] at z3
  exact h s r hs z1 z2 z3
theorem RNL.att (hfu : 5000 ≤ fu) (h : RNL M m MC t u q i H) (hj : j < 3) (ht : t + 40 < 2 ^ 27) : ∃ N n NC t' b, f_L_attempt fu (nI j) 0 M = some ((if b = true then 2 else 1), N) ∧ f_X11_tries fu (nI j) 0 m = some ((if b = true then 2 else 1), n) ∧ t ≤ t' ∧ t' ≤ t + 40 ∧ RNL N n NC t' u q i H ∧ (∀ a, a < 142 → N a = M a) ∧ FMt n m ∧ N 145 (18 + j) = n 12 j := by
  obtain ⟨h1, h2, h3, h4, h5, h6, h7⟩ := h
  obtain ⟨N, n, t', b, e1, e2, e3', e4, e5, e6⟩ := att_L hfu h2 hj ht
  obtain ⟨M1, NC, n', t2, b', d1, d2, d3, d4, d5, d6, d7, d8⟩ := try0 (fu := fu) hfu h1.1.1 (by omega) hj
  rw [e2] at d3
  have hnn : n = n' := by injection d3 with d3; injection d3
  subst hnn
  have c1 : n 0 8 = nI t' := e5.tt.1
  have c2 : n 0 8 = nI t2 := d6.1.2.1
  have htt : t2 = t' := (nI_eq (by omega) (by omega)).mp (c2.symm.trans c1)
  subst htt
  have f59 : ∀ a, 42 ≤ a → n a = m a := fun a ha => d8.1 a (by omega) (by omega) (by omega) (by omega) (by omega)
  have f157 : N 157 = M 157 := e6 157 (by omega) (by omega) (by omega) (by omega)
  refine ⟨N, n, NC, t2, b, e1, e2, e3', e4, ⟨h1.tr d6 d7 d8, e5, h3.cg (e6 142 (by omega) (by omega) (by omega) (by omega)) (e6 143 (by omega) (by omega) (by omega) (by omega)) (d8.1 1 (by omega) (by omega) (by omega) (by omega) (by omega)) (d8.1 2 (by omega) (by omega) (by omega) (by omega) (by omega)) (d8.1 3 (by omega) (by omega) (by omega) (by omega) (by omega)), fun k hk => (h4 k hk).cg (e6 155 (by omega) (by omega) (by omega) (by omega)) (fun a _ _ => f59 a (by omega)), fun k hk => (h5 k hk).cg (by rw [f157]) (by rw [f59 59 (by omega)]) (by rw [f59 64 (by omega)]) (by rw [f59 58 (by omega)]), h6, by rw [d8.2 0 (by omega) (by omega)]; exact h7⟩, fun a ha => e6 a (by omega) (by omega) (by omega) (by omega), d8, ?_⟩
  exact (e5.pl.1 j hj).2.2.2.2.2.2.1
theorem RNL.step (hfu : 5000 ≤ fu) (h : RNL M m MC t u q i H) (hi : i < q) (hq : q ≤ 4) (hs : s < 6) (h59 : m 59 i = nI s) (ht : t < 2 ^ 26) (hu : u < 62) : (∃ N N2 n NC B, f_L_does fu (nI i) M = some (1, N) ∧ f_L_written fu (nI s) N = some N2 ∧ f_X11_canStep fu (nI i) m = some 1 ∧ f_X11_doesStep fu (nI i) m = some n ∧ RNL N2 n NC t (u + 1) q (i + 1) (nx H i B) ∧ (∀ a, a < 142 → N2 a = M a)) ∨ (f_L_does fu (nI i) M = some (0, M) ∧ f_X11_canStep fu (nI i) m = some 0 ∧ ¬ CAN m (H i) s i) := by
  obtain ⟨h1, h2, h3, h4, h5, h6, h7⟩ := h
  obtain ⟨a1, a2, a3, a4, a5, a6, a7, a8⟩ := h1.2.1 i hi
  have hc := can2 hfu h1.1 (show i < 4 by omega) hs h59 (by rw [a2]; exact h59) a1 a4 a5 a6 a7 a8
  by_cases hcan : CAN m (H i) s i
  · left
    obtain ⟨NC, n, B, d1, d2, d3, d4, d5, d6, d7⟩ := do2 hfu h1.1 (show i < 4 by omega) hs h59 (by rw [a2]; exact h59) a1 a5 a6 a7 a8 (by omega) (by omega) hcan
    have hcs : f_X11_canStep fu (nI i) m = some 1 := by
      rcases hc with ⟨_, _, c2⟩ | ⟨c1, _⟩
      · exact c2
      · exact absurd (c1.symm.trans (can1 hfu h1.1 (show i < 4 by omega) hs (by rw [a2]; exact h59) a1 a5 a6 a7 a8 hcan)) (by decide)
    have hlen := (h6 i (Nat.le_refl _) s hs).1
    obtain ⟨N, N2, n', B', r, w1, w2, w3, w4, w5, w6, w7, w8, w9, w10, w11⟩ := doesL hfu h2 h3 h1.1 (h4 i hi) (show i < 4 by omega) hs h59 (by omega) hcan ht hu
    rw [d2] at w3
    have hnn : n = n' := by injection w3
    subst hnn
    have hRU := h1.d hi d3 d4 d5 d6 d7
    have eB : ∀ s, s < 6 → B' s = B s := fun s hs => RM_inj (w5 s hs).2.1 (d3.2.1 s hs).2
    have f59 : ∀ a, 58 ≤ a → a ≤ 63 → n a = m a := fun a z1 z2 => d7.1 a (by omega) (by omega) (by omega) (by omega)
    refine ⟨N, N2, n, NC, B, w1, w2, hcs, d2, ⟨hRU, w4, ?_, fun k hk => (h4 k hk).cg (w6 155 (by omega) (by omega)) f59, fun k hk => ?_, fun k hk s hs => ?_, by rw [d7.2.1 0 (by omega) (by omega) (by omega)]; exact h7⟩, fun a ha => w6 a (Or.inl ha) (by omega)⟩
    · rw [nx_s]
      exact fun s hs => by rw [← eB s hs]; exact w5 s hs
    · by_cases hki : k = i
      · subst hki
        rw [nx_le (Nat.le_refl _), nx_s]
        intro s' r' hs' z1 z2 z3
        rw [f59 59 (by omega) (by omega), h59, nI_eq (by omega) (by omega)] at z1
        subst z1
        rw [f59 58 (by omega) (by omega)] at z3
        have hrr : r' = r := by
          have hnd : NDm (if m 58 k = 0 then B s else H k s) := by
            split
            · exact (d3.2.2.1 s hs).1.nd
            · exact (h1.1.2.2.1 s hs).1.nd
          have w10' : r ∈ (if m 58 k = 0 then B s else H k s) := by rw [← eB s hs]; exact w10
          obtain ⟨i1, g1⟩ := List.getElem?_of_mem z3
          obtain ⟨i2, g2⟩ := List.getElem?_of_mem w10'
          have : i1 = i2 := hnd i1 i2 r' r g1 g2 (by rw [z2, w9])
          subst this
          rw [g1] at g2
          exact Option.some.inj g2
        rw [hrr, w7]
      · rw [nx_le (by omega), nx_le (by omega)]
        exact (h5 k (by omega)).cg (w8 k hki) (by rw [f59 59 (by omega) (by omega)]) (d7.2.2.1 k hki) (by rw [f59 58 (by omega) (by omega)])
    · by_cases hki : k ≤ i
      · rw [nx_le hki]; exact h6 k hki s hs
      · obtain rfl : k = i + 1 := by omega
        rw [nx_s, ← eB s hs]
        have := w11 s hs
        have := (h6 i (Nat.le_refl _) s hs).1
        exact ⟨by omega, (w5 s hs).2.2⟩
  · right
    rcases hc with ⟨c0, _⟩ | ⟨c1, c2⟩
    · exact absurd c0 hcan
    · exact ⟨doesN hfu h2 h3 (h4 i hi) (show i < 4 by omega) hs h59 a4 hcan, c2, hcan⟩
end Run3
