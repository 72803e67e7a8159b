/-! ===== a step of a bundle is taken back: both ===== -/
def okr (s : Nat) (r : Row) : Prop := (∀ c, c < 4 → okc (cel r c)) ∧ (s / 2 = 1 → r.2.2.1 = 5000 ∨ (0 ≤ r.2.2.1 ∧ r.2.2.1 ≤ 99))
def U0 (M m : Mem) (j s : Nat) (r : Row) (A B : Nat → List Row) : Prop := m 58 j = 0 ∧ B = setR A s (insR (A s) r) ∧ (∀ r' ∈ A s, r'.1 ≠ r.1) ∧ M 127 j = r.1 ∧ m 64 j = r.1
def U1 (M m : Mem) (j s : Nat) (r : Row) (A B : Nat → List Row) : Prop := m 58 j = 1 ∧ okr s r ∧ ∃ p c v, fst (A s) r.1 = some p ∧ (A s)[p]? = some r ∧ c < 4 ∧ (s / 2 = 1 → c = 1) ∧ B = setR A s ((A s).set p (setc r c v)) ∧ M 127 j = r.1 ∧ m 64 j = r.1 ∧ M 125 (4 * j + 1) = nI c ∧ m 61 j = nI c ∧ M 128 j = cel r c ∧ m 65 (4 * j) = cel r c
def U2 (M m : Mem) (j s : Nat) (r : Row) (A B : Nat → List Row) : Prop := m 58 j = 2 ∧ okr s r ∧ ∃ p, fst (A s) r.1 = some p ∧ (A s)[p]? = some r ∧ B = setR A s ((A s).eraseIdx p) ∧ m 64 j = r.1 ∧ RC M (130 + 3 * j) [r] ∧ (m 65 (4 * j) = r.2.1 ∧ m 65 (4 * j + 1) = r.2.2.1 ∧ m 65 (4 * j + 2) = r.2.2.2.1 ∧ m 65 (4 * j + 3) = r.2.2.2.2) ∧ (s < 2 → ∃ k a, r.1 = nI k ∧ k < a ∧ a ≤ 60 ∧ m 4 s = nI a)
def UN (M m : Mem) (j : Nat) (A B : Nat → List Row) : Prop := ∃ s r, s < 6 ∧ m 59 j = nI s ∧ M 124 j = nI s ∧ M 123 j = m 58 j ∧ SO (A s) ∧ (A s).length ≤ 12 ∧ (U0 M m j s r A B ∨ U1 M m j s r A B ∨ U2 M m j s r A B)
section Undo
variable {fu nS nL nC nO i j s t u e p c k : Nat} {M m N n : Mem} {RR RR' A B : Nat → List Row} {R : List Row} {r : Row} {v x p1 p2 p3 p4 p5 p6 : Int32}
theorem UN.cg (h : UN M m j A B) (hW : ∀ s, s < 6 → ∃ a, a ≤ 60 ∧ m 4 s = nI a) (a1 : N 123 j = M 123 j) (a2 : N 124 j = M 124 j) (a3 : N 125 (4 * j + 1) = M 125 (4 * j + 1)) (a4 : N 127 j = M 127 j) (a5 : N 128 j = M 128 j) (a6 : ∀ q, q = 130 + 3 * j ∨ q = 130 + 3 * j + 1 ∨ q = 130 + 3 * j + 2 → N q = M q) (b1 : n 58 j = m 58 j) (b2 : n 59 j = m 59 j) (b3 : n 61 j = m 61 j) (b4 : n 64 j = m 64 j) (b5 : ∀ q, 4 * j ≤ q → q ≤ 4 * j + 3 → n 65 q = m 65 q) (b6 : ∀ s a, s < 6 → m 4 s = nI a → a ≤ 60 → ∃ a', a ≤ a' ∧ a' ≤ 60 ∧ n 4 s = nI a') : UN N n j A B := by
  obtain ⟨s, r, h1, h2, h3, h4, h5, h6, h7⟩ := h
  refine ⟨s, r, h1, by rw [b2]; exact h2, by rw [a2]; exact h3, by rw [a1, b1]; exact h4, h5, h6, ?_⟩
  rcases h7 with ⟨c1, c2, c3, c4, c5⟩ | ⟨c0, c1, p, c, v, c2, c3, c4, c5, c6, c7, c8, c9, c10, c11, c12⟩ | ⟨c0, c1, p, c2, c3, c4, c5, c6, ⟨c7, c8, c9, c10⟩, c11⟩
  · exact Or.inl ⟨by rw [b1]; exact c1, c2, c3, by rw [a4]; exact c4, by rw [b4]; exact c5⟩
  · exact Or.inr (Or.inl ⟨by rw [b1]; exact c0, c1, p, c, v, c2, c3, c4, c5, c6, by rw [a4]; exact c7, by rw [b4]; exact c8, by rw [a3]; exact c9, by rw [b3]; exact c10, by rw [a5]; exact c11, by rw [b5 _ (by omega) (by omega)]; exact c12⟩)
  · refine Or.inr (Or.inr ⟨by rw [b1]; exact c0, c1, p, c2, c3, c4, by rw [b4]; exact c5, c6.cg (by rw [a6 _ (by omega)]) (a6 _ (by omega)) (a6 _ (by omega)), ⟨by rw [b5 _ (by omega) (by omega)]; exact c7, by rw [b5 _ (by omega) (by omega)]; exact c8, by rw [b5 _ (by omega) (by omega)]; exact c9, by rw [b5 _ (by omega) (by omega)]; exact c10⟩, fun z => ?_⟩)
    obtain ⟨k, a, d1, d2, d3, d4⟩ := c11 z
    obtain ⟨a', d5, d6, d7⟩ := b6 s a h1 d4 d3
    exact ⟨k, a', d1, by omega, d6, d7⟩
theorem n10 : ((1 : Int32) = 0) = False := by decide
theorem n20 : ((2 : Int32) = 0) = False := by decide
theorem n21 : ((2 : Int32) = 1) = False := by decide
theorem e4m {j : Nat} : nI j * 4 + 1 = nI (4 * j + 1) ∧ 4 * nI j = nI (4 * j) ∧ nI (4 * j) + 1 = nI (4 * j + 1) ∧ nI (4 * j) + 2 = nI (4 * j + 2) ∧ nI (4 * j) + 3 = nI (4 * j + 3) ∧ nI j * 4 = nI (4 * j) := by
  have e4 : nI j * 4 + 1 = nI (4 * j + 1) := by rw [show (4 : Int32) = nI 4 from rfl, show (1 : Int32) = nI 1 from rfl, pk_mul, nI_add, Nat.mul_comm]
  have e5 : 4 * nI j = nI (4 * j) := by rw [show (4 : Int32) = nI 4 from rfl, pk_mul]
  have e51 : nI (4 * j) + 1 = nI (4 * j + 1) := by rw [show (1 : Int32) = nI 1 from rfl, nI_add]
  have e52 : nI (4 * j) + 2 = nI (4 * j + 2) := by rw [show (2 : Int32) = nI 2 from rfl, nI_add]
  have e53 : nI (4 * j) + 3 = nI (4 * j + 3) := by rw [show (3 : Int32) = nI 3 from rfl, nI_add]
  exact ⟨e4, e5, e51, e52, e53, by rw [show (4 : Int32) = nI 4 from rfl, pk_mul, Nat.mul_comm]⟩
theorem undoA (hfu : 5000 ≤ fu) (hj : j < 4) (h1 : s < 6) (h2 : m 59 j = nI s) (h3 : M 124 j = nI s) (h4 : M 123 j = m 58 j) (h5 : SO (A s)) (h6 : (A s).length ≤ 12) (h : U0 M m j s r A B) (hW : WR M m t u B) (ht : t < 2 ^ 29) (hu : u < 2 ^ 29) : ∃ N n, f_X2_takeBack fu (nI j) M = some N ∧ f_X11_takesBack fu (nI j) m = some n ∧ WR N n t (u + 1) A ∧ FCw N M ∧ FMw n m := by
  obtain ⟨c1, c2, c3, c4, c5⟩ := h
  have hBs : B s = insR (A s) r := by rw [c2, setR_s]
  obtain ⟨N, n, g1, g2, g3, g4, g5⟩ := remove2 (mk := r.1) hfu h1 hW ht hu (by rw [hBs]; exact fst_ins h5 c3)
  rw [hBs, ins_del, c2, setR_set, setR_self rfl] at g3
  refine ⟨N, n, ?_, ?_, g3, g4, g5⟩
  · simp (disch := omega) only [f_X2_takeBack, inb_nI, grd_true, nI_clamp, nm_d, h3, h4, c1, if_true, c4, g1, bd_some]
  · simp (disch := omega) only [f_X11_takesBack, inb_nI, grd_true, nI_clamp, nm_d, h2, c1, if_true, c5, g2, bd_some]
theorem cel1 : cel r 1 = r.2.2.1 := rfl
theorem ne5001 (h : v = 5000 ∨ (0 ≤ v ∧ v ≤ 99)) : v ≠ 5001 := by grind
theorem add00 (y : Int32) : y + 0 = y := by grind
theorem backM (hj : j < 4) (h2 : m 59 j = nI s) (z1 : (m 58 j = 0) = False) (z2 : (m 58 j = 1) = True) : f_X11_takesBack fu (nI j) m = bm (f_X11_puts fu (nI s) (m 64 j) (m 61 j) (m 65 (4 * j)) m) (fun _ M_14 => some M_14) := by
  obtain ⟨e4, e5, e51, e52, e53, _⟩ := e4m (j := j)
  simp (disch := omega) only [f_X11_takesBack, inb_nI, grd_true, nI_clamp, nm_d, h2, z1, z2, if_true, if_false, e5, e51, e52, e53]
theorem undoB (hfu : 5000 ≤ fu) (hj : j < 4) (h1 : s < 6) (h2 : m 59 j = nI s) (h3 : M 124 j = nI s) (h4 : M 123 j = m 58 j) (h5 : SO (A s)) (h6 : (A s).length ≤ 12) (h : U1 M m j s r A B) (hW : WR M m t u B) (ht : t < 2 ^ 29) (hu : u < 2 ^ 29) : ∃ N n, f_X2_takeBack fu (nI j) M = some N ∧ f_X11_takesBack fu (nI j) m = some n ∧ WR N n t (u + 1) A ∧ FCw N M ∧ FMw n m := by
  obtain ⟨c0, c1, p, c, v, c2, c3, c4, c5, c6, c7, c8, c9, c10, c11, c12⟩ := h
  obtain ⟨e4, e5, e51, e52, e53, _⟩ := e4m (j := j)
  have hl := gl_lt c3
  have hBs : B s = (A s).set p (setc r c v) := by rw [c6, setR_s]
  have hmk : (setc r c v).1 = r.1 := rfl
  have hget : (B s)[p]? = some (setc r c v) := by rw [hBs, List.getElem?_set]; simp [hl]
  have hfst : fst (B s) r.1 = some p := by rw [← hmk]; exact fst_of (hW.2.2.1 s h1).1.nd hget
  have hoc := c1.1 c c4
  have hfx : stv s (cel r c) = cel r c := by
    by_cases z : s / 2 = 1
    · have := c5 z
      subst this
      rw [cel1]; exact stv_fix (c1.2 z)
    · simp only [stv]; rw [if_neg (fun y => z y.1)]
  have hv5 : s / 2 = 1 → cel r c ≠ 5001 := fun z => by
    have := c5 z
    subst this
    have := c1.2 z
    rw [cel1]; exact ne5001 this
  have hlo : lo s (cel r c) = 0 := by simp only [lo, hfx, if_true]
  obtain ⟨N, n, g1, g2, g3, g4, g5⟩ := change2 (w := 0) (mk := r.1) (v := cel r c) hfu h1 hW ht hu hfst hget c4 c5 hoc hv5
  rw [hfx, hlo, up_self (add00 _).symm] at g2
  rw [hfx, hBs, set_back c3 c4, c6, setR_set, setR_self rfl] at g3
  refine ⟨N, n, ?_, ?_, g3, g4, g5⟩
  · have z1 : (M 123 j = 0) = False := by rw [h4, c0]; exact n10
    have z2 : (M 123 j = 1) = True := by rw [h4, c0]; exact eq_self 1
    simp (disch := omega) only [f_X2_takeBack, inb_nI, grd_true, nI_clamp, nm_d, h3, z1, z2, if_true, if_false, e4, c7, c9, c11, g1, bm_some]
  · have z1 : (m 58 j = 0) = False := by rw [c0]; exact n10
    have z2 : (m 58 j = 1) = True := by rw [c0]; exact eq_self 1
    have z3 := backM (fu := fu) hj h2 z1 z2
    rw [c8, c10, c12, g2, bm_some] at z3
    exact z3
theorem undoC (hfu : 5000 ≤ fu) (hj : j < 4) (h1 : s < 6) (h2 : m 59 j = nI s) (h3 : M 124 j = nI s) (h4 : M 123 j = m 58 j) (h5 : SO (A s)) (h6 : (A s).length ≤ 12) (h : U2 M m j s r A B) (hW : WR M m t u B) (ht : t < 2 ^ 29) (hu : u < 2 ^ 29) : ∃ N n, f_X2_takeBack fu (nI j) M = some N ∧ f_X11_takesBack fu (nI j) m = some n ∧ WR N n t (u + 1) A ∧ FCw N M ∧ FMw n m := by
  obtain ⟨c0, c1, p, c2, c3, c4, c5, c6, ⟨c7, c8, c9, c10⟩, c11⟩ := h
  obtain ⟨e4, e5, e51, e52, e53, _⟩ := e4m (j := j)
  have hl := gl_lt c3
  have hBs : B s = (A s).eraseIdx p := by rw [c4, setR_s]
  have hnew : ∀ r' ∈ B s, r'.1 ≠ r.1 := by
    rw [hBs]
    intro r' hr' e
    obtain ⟨q, hq⟩ := List.getElem?_of_mem hr'
    rw [List.getElem?_eraseIdx] at hq
    split at hq
    · have := h5.nd q p r' r hq c3 e; omega
    · have := h5.nd (q + 1) p r' r hq c3 e; omega
  obtain ⟨N, n, g1, g2, g3, g4, g5⟩ := back2 (b := 130 + 3 * j) hfu h1 hW ht hu (by rw [hBs, List.length_eraseIdx]; simp only [hl, if_true]; omega) c6 (by omega) hnew c1.1 c1.2 (fun a z1 z2 z3 => by
    obtain ⟨k, a', d1, d2, d3, d4⟩ := c11 z3
    rw [d4, nI_eq (by omega) (by omega)] at z1
    exact ⟨k, by omega, d1⟩)
  rw [hBs, del_ins h5 c3, c4, setR_set, setR_self rfl] at g3
  refine ⟨N, n, ?_, ?_, g3, g4, g5⟩
  · simp (disch := omega) only [f_X2_takeBack, inb_nI, grd_true, nI_clamp, nm_d, h3, h4, c0, n20, n21, if_false, Nat.reduceAdd, g1, bd_some]
  · simp (disch := omega) only [f_X11_takesBack, inb_nI, grd_true, nI_clamp, nm_d, h2, c0, n20, n21, if_false, e5, e51, e52, e53, c5, c7, c8, c9, c10, g2, bd_some]
theorem undo2 (hfu : 5000 ≤ fu) (hj : j < 4) (h : UN M m j A B) (hW : WR M m t u B) (ht : t < 2 ^ 29) (hu : u < 2 ^ 29) : ∃ N n, f_X2_takeBack fu (nI j) M = some N ∧ f_X11_takesBack fu (nI j) m = some n ∧ WR N n t (u + 1) A ∧ FCw N M ∧ FMw n m := by
  obtain ⟨s, r, h1, h2, h3, h4, h5, h6, h7⟩ := h
  rcases h7 with h7 | h7 | h7
  · exact undoA hfu hj h1 h2 h3 h4 h5 h6 h7 hW ht hu
  · exact undoB hfu hj h1 h2 h3 h4 h5 h6 h7 hW ht hu
  · exact undoC hfu hj h1 h2 h3 h4 h5 h6 h7 hW ht hu
end Undo
