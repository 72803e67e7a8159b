/-! ===== a bundle is taken back: the law, the reference ===== -/
section Run4
variable {fu t u t1 u1 k0 s i j p c k q : Nat} {M m N n P MC : Mem} {RR A B : Nat → List Row} {R : List Row} {r : Row} {v x y a b d e mk w : Int32} {H : Nat → Nat → List Row}
theorem one2 : ((1 : Int32) = 2) = False := by decide
def BACKL (fu j : Nat) (M m : Mem) (t u : Nat) (A : Nat → List Row) : Prop := ∃ N2 n, (∀ x K q1, ¬ x < 0 → f_L_runs_L211 fu x K (q1 + 1) (nI j) M = f_L_runs_L211 fu x K q1 (nI j + (-1)) N2) ∧ f_X11_takesBack fu (nI j) m = some n ∧ LR N2 n t (u + 1) ∧ RLL N2 n A ∧ ∀ a, (a < 142 ∨ 153 ≤ a) → N2 a = M a
theorem backA (hfu : 5000 ≤ fu) (h : LR M m t u) (hR : RLL M m B) (hW : WR MC m t u B) (hS : SPL M m j) (hw : WASL M m j A B) (hj : j < 4) (hs : s < 6) (h2 : m 59 j = nI s) (h5 : SO (A s)) (hU : U0 MC m j s r A B) (ht : t < 2 ^ 26) (hu : u < 62) : BACKL fu j M m t u A := by
  obtain ⟨c1, c2, c3, c4, c5⟩ := hU
  obtain ⟨g0, g1, g2, g3, g4, g5⟩ := e6j (j := j)
  obtain ⟨s0, s1, s2, s3, s4, s5, _⟩ := hS
  obtain ⟨q1, q2, q3⟩ := hR s hs
  have h10 := q1.2.1
  have hBs : B s = insR (A s) r := by rw [c2, setR_s]
  have hrB : r ∈ B s := by rw [hBs]; exact ins_mem
  have hpk : lg (M 157) j = pk r := hw s r hs h2 c5.symm (by rw [if_pos c1]; exact hrB)
  obtain ⟨ok1, ok2⟩ := q3 r hrB
  have hmk : f_L_markOf (pk r) = r.1 := mark_pk ok1 ok2
  have hfst : fst (B s) r.1 = some (pl (mkf (A s)) r.1 (A s).length) := by rw [hBs]; exact fst_ins h5 c3
  obtain ⟨r2, hr2, _⟩ := fst_lt hfst
  have hpl := gl_lt hr2
  have ep : f_L_place fu (nI s) r.1 M = some (nI (pl (mkf (A s)) r.1 (A s).length)) := by rw [lplace_eq hfu q1 hs q3, hfst]; rfl
  obtain ⟨N, e1, hL1, hR1, f1⟩ := h.rem hfu hR hs hpl
  obtain ⟨N2, n2, e2, e3', hL4, f2, f3, f4, _, f6, _⟩ := hL1.wrt hfu hs ht hu
  have hR2 := f6 _ hR1
  rw [hBs, ins_del, c2, setR_set, setR_self rfl] at hR2
  have etk : f_X11_takesOut fu (nI s) r.1 m = some n2 := by rw [mtakes_eq hfu q2 hs (hW.2.2.1 s hs).1.nd hfst, e3']
  refine ⟨N2, n2, fun x K q hx => ?_, ?_, hL4, hR2, fun a ha => by rw [f2 a (by omega) (by omega) (by omega) (by omega), f1 a (by omega) (by omega)]⟩
  · have hn : ¬ nI j < 0 := nI_pos (by omega)
    simp (disch := omega) only [f_L_runs_L211, hn, hx, if_false, g0, g1, inb_nI, grd_true, nI_clamp, nm_d, jn_d, s0, s1, h2, c1, if_true, hpk, hmk, ep, bd_some, e1, e2]
  · simp (disch := omega) only [f_X11_takesBack, inb_nI, grd_true, nI_clamp, nm_d, h2, c1, if_true, c5, etk, bd_some]
theorem backB (hfu : 5000 ≤ fu) (h : LR M m t u) (hR : RLL M m B) (hW : WR MC m t u B) (hS : SPL M m j) (hw : WASL M m j A B) (hA : okW (A s)) (hj : j < 4) (hs : s < 6) (h2 : m 59 j = nI s) (hU : U1 MC m j s r A B) (ht : t < 2 ^ 26) (hu : u < 62) : BACKL fu j M m t u A := by
  obtain ⟨c0, c1, p, c, v, c2, c3, c4, c5, c6, c7, c8, c9, c10, c11, c12⟩ := hU
  obtain ⟨g0, g1, g2, g3, g4, g5⟩ := e6j (j := j)
  obtain ⟨s0, s1, s2, s3, s4, s5, _⟩ := hS
  obtain ⟨q1, q2, q3⟩ := hR s hs
  have h10 := q1.2.1
  have hl := gl_lt c3
  have hBs : B s = (A s).set p (setc r c v) := by rw [c6, setR_s]
  have hget : (B s)[p]? = some (setc r c v) := by rw [hBs, List.getElem?_set]; simp [hl]
  have hfst : fst (B s) r.1 = some p := fst_of (r := setc r c v) (hW.2.2.1 s hs).1.nd hget
  have hrA : r ∈ A s := List.mem_of_getElem? c3
  have hpk : lg (M 157) j = pk r := hw s r hs h2 c8.symm (by rw [if_neg (by rw [c0]; decide)]; exact hrA)
  obtain ⟨ok1, ok2⟩ := hA r hrA
  have hmk : f_L_markOf (pk r) = r.1 := mark_pk ok1 ok2
  have hpl := gl_lt hget
  have ep : f_L_place fu (nI s) r.1 M = some (nI p) := by rw [lplace_eq hfu q1 hs q3, hfst]; rfl
  have hat : f_L_at (pk r) (nI c) = cel r c := at_pk ok1 ok2 c4
  have e10 : (10 : Int32) * nI s + nI p = nI (10 * s + p) := by rw [show (10 : Int32) = nI 10 from rfl, pk_mul, nI_add]
  obtain ⟨b1, hL1, hR1⟩ := h.put (v := cel r c) hR hs hget c4 (ok2 c c4)
  obtain ⟨N2, n2, e2, e3', hL4, f2, f3, f4, _, f6, _⟩ := hL1.wrt hfu hs ht hu
  have hR2 := f6 _ hR1
  rw [hBs, set_back c3 c4, c6, setR_set, setR_self rfl] at hR2
  have epu : f_X11_puts fu (nI s) r.1 (nI c) (cel r c) m = some (cel (setc r c v) c, n2) := by rw [puts_eq hfu hs q2 (hW.2.2.1 s hs).1.nd hfst hget c4, e3', bd_some]
  have z1 : (m 58 j = 0) = False := by rw [c0]; exact n10
  have z2 : (m 58 j = 1) = True := by rw [c0]; exact eq_self 1
  have e155 : M 155 (6 * j + 3) = nI c := by rw [s3, c10]
  refine ⟨N2, n2, fun x K q hx => ?_, ?_, hL4, hR2, fun a ha => by rw [f2 a (by omega) (by omega) (by omega) (by omega), upL_n (by omega)]⟩
  · have hn : ¬ nI j < 0 := nI_pos (by omega)
    simp (disch := omega) only [f_L_runs_L211, hn, hx, if_false, g0, g1, g3, inb_nI, grd_true, nI_clamp, nm_d, jn_d, s0, s1, h2, c0, n10, one2, hpk, hmk, ep, bd_some, e10, e155, hat, b1, e2]
  · have z3 := backM (fu := fu) hj h2 z1 z2
    rw [c8, c10, c12, epu, bm_some] at z3
    exact z3
theorem backC (hfu : 5000 ≤ fu) (h : LR M m t u) (hR : RLL M m B) (hW : WR MC m t u B) (hS : SPL M m j) (hw : WASL M m j A B) (hA : okW (A s)) (hl9 : (A s).length ≤ 9) (hj : j < 4) (hs : s < 6) (h2 : m 59 j = nI s) (h5 : SO (A s)) (hU : U2 MC m j s r A B) (ht : t < 2 ^ 26) (hu : u < 62) : BACKL fu j M m t u A := by
  obtain ⟨c0, c1, p, c2, c3, c4, c5, c6, ⟨c7, c8, c9, c10⟩, c11⟩ := hU
  obtain ⟨g0, g1, g2, g3, g4, g5⟩ := e6j (j := j)
  obtain ⟨s0, s1, s2, s3, s4, s5, _⟩ := hS
  obtain ⟨q1, q2, q3⟩ := hR s hs
  obtain ⟨e4, e5, e51, e52, e53, _⟩ := e4m (j := j)
  have h10 := q1.2.1
  have hl := gl_lt c3
  have hBs : B s = (A s).eraseIdx p := by rw [c4, setR_s]
  have hlB : (B s).length < 10 := by rw [hBs, List.length_eraseIdx]; split <;> omega
  have hrA : r ∈ A s := List.mem_of_getElem? c3
  have hpk : lg (M 157) j = pk r := hw s r hs h2 c5.symm (by rw [if_neg (by rw [c0]; decide)]; exact hrA)
  obtain ⟨ok1, ok2⟩ := hA r hrA
  have hmk : f_L_markOf (pk r) = r.1 := mark_pk ok1 ok2
  obtain ⟨N, e1, hL1, hR1, f1⟩ := h.lay (r := r) hfu hR hs hlB ok1 ok2
  obtain ⟨N2, n2, e2, e3', hL4, f2, f3, f4, _, f6, _⟩ := hL1.wrt hfu hs ht hu
  have hR2 := f6 _ hR1
  rw [hBs, del_ins h5 c3, c4, setR_set, setR_self rfl] at hR2
  have ein : f_X11_inserts fu (nI s) r.1 r.2.1 r.2.2.1 r.2.2.2.1 r.2.2.2.2 m = some n2 := by rw [minserts_eq hfu q2 hs (by omega), e3']
  refine ⟨N2, n2, fun x K q hx => ?_, ?_, hL4, hR2, fun a ha => by rw [f2 a (by omega) (by omega) (by omega) (by omega), f1 a (by omega) (by omega)]⟩
  · have hn : ¬ nI j < 0 := nI_pos (by omega)
    simp (disch := omega) only [f_L_runs_L211, hn, hx, if_false, g0, g1, inb_nI, grd_true, nI_clamp, nm_d, jn_d, s0, s1, h2, c0, n20, if_true, hpk, hmk, bd_some, e1, e2]
  · simp (disch := omega) only [f_X11_takesBack, inb_nI, grd_true, nI_clamp, nm_d, h2, c0, n20, n21, if_false, e5, e51, e52, e53, c5, c7, c8, c9, c10, ein, bd_some]
theorem backL (hfu : 5000 ≤ fu) (h : LR M m t u) (hR : RLL M m B) (hW : WR MC m t u B) (hS : SPL M m j) (hw : WASL M m j A B) (hA : ∀ s, s < 6 → (A s).length ≤ 9 ∧ okW (A s)) (hj : j < 4) (hU : UN MC m j A B) (ht : t < 2 ^ 26) (hu : u < 62) : BACKL fu j M m t u A := by
  obtain ⟨s, r, h1, h2, h3, h4, h5, h6, h7⟩ := hU
  rcases h7 with h7 | h7 | h7
  · exact backA hfu h hR hW hS hw hj h1 h2 h5 h7 ht hu
  · exact backB hfu h hR hW hS hw (hA s h1).2 hj h1 h2 h7 ht hu
  · exact backC hfu h hR hW hS hw (hA s h1).2 (hA s h1).1 hj h1 h2 h5 h7 ht hu
def RLU (M m MC : Mem) (t u i : Nat) (H : Nat → Nat → List Row) : Prop := UND MC m t u i H ∧ LR M m t u ∧ RLL M m (H i) ∧ (∀ k, k < i → SPL M m k) ∧ (∀ k, k < i → WASL M m k (H k) (H (k + 1))) ∧ ∀ k, k ≤ i → ∀ s, s < 6 → (H k s).length ≤ 6 + k ∧ okW (H k s)
theorem RNL.und (h : RNL M m MC t u q i H) (hi : i ≤ q) : RLU M m MC t u i H := ⟨h.1.und, h.2.1, h.2.2.1, fun k hk => h.2.2.2.1 k (by omega), h.2.2.2.2.1, h.2.2.2.2.2.1⟩
theorem undoLL (hfu : 5000 ≤ fu) (hx : ¬ x < 0) {K : Mem → Option (Int32 × Mem)} (ht : t < 2 ^ 26) : ∀ i q1 q2 (M m MC : Mem) (u : Nat), i ≤ 4 → i < q1 → i < q2 → RLU M m MC t u i H → u + i < 62 → ∃ N n u', f_L_runs_L211 fu x K q1 (nI i + (-1)) M = K N ∧ f_X11_run_L67 fu v q2 (nI i + (-1)) m = some (v, n) ∧ LR N n t u' ∧ u ≤ u' ∧ u' ≤ u + i ∧ (∀ a, a < 142 → N a = M a) ∧ n 0 0 = m 0 0 := by
  intro i
  induction i with
  | zero =>
    intro q1 q2 M m MC u h0 h1 h2 hU hu
    obtain ⟨q1, rfl⟩ := fu1 h1
    obtain ⟨q2, rfl⟩ := fu1 h2
    have hz : (nI 0 + (-1) : Int32) < 0 := by decide
    exact ⟨M, m, u, by rw [f_L_runs_L211, if_pos hz], by rw [f_X11_run_L67, if_pos hz], hU.2.1, Nat.le_refl _, by omega, fun _ _ => rfl, rfl⟩
  | succ i ih =>
    intro q1 q2 M m MC u h0 h1 h2 hU hu
    obtain ⟨q1, rfl⟩ := fu1 h1
    obtain ⟨q2, rfl⟩ := fu1 h2
    have ei : nI (i + 1) + (-1) = nI i := add_m1 (a := i + 1) (by omega)
    have hn : ¬ nI i < 0 := nI_pos (by omega)
    obtain ⟨⟨g1, g2⟩, r1, r2, r3, r4, r5⟩ := hU
    obtain ⟨g3, g4⟩ := g2 i (by omega)
    obtain ⟨NC, n, d1, d2, d3, d4, d5⟩ := undo2 hfu (show i < 4 by omega) g4 g1 (by omega) (by omega)
    obtain ⟨N2, n', w1, w2, w3, w4, w5⟩ := backL hfu r1 r2 g1 (r3 i (by omega)) (r4 i (by omega)) (fun s hs => ⟨by have := (r5 i (by omega) s hs).1; omega, (r5 i (by omega) s hs).2⟩) (show i < 4 by omega) g4 ht (by omega)
    rw [d2] at w2
    have hnn : n = n' := by injection w2
    subst hnn
    have hUn : UND NC n t (u + 1) i H := by
      refine ⟨d3, fun k hk => ⟨by rw [d4 126 (by omega)]; exact (g2 k (by omega)).1, (g2 k (by omega)).2.cg g1.n4 ?_ ?_ ?_ ?_ ?_ (fun a ha => d4 a (by omega)) ?_ ?_ ?_ ?_ (fun y _ _ => ?_) d5.2.2⟩⟩
      · rw [d4 123 (by omega)]
      · rw [d4 124 (by omega)]
      · rw [d4 125 (by omega)]
      · rw [d4 127 (by omega)]
      · rw [d4 128 (by omega)]
      · rw [d5.1 58 (by omega) (by omega)]
      · rw [d5.1 59 (by omega) (by omega)]
      · rw [d5.1 61 (by omega) (by omega)]
      · rw [d5.1 64 (by omega) (by omega)]
      · rw [d5.1 65 (by omega) (by omega)]
    have hU' : RLU N2 n NC t (u + 1) i H := ⟨hUn, w3, w4, fun k hk => (r3 k (by omega)).cg (w5 155 (by omega)) (fun a _ _ => d5.1 a (by omega) (by omega)), fun k hk => (r4 k (by omega)).cg (by rw [w5 157 (by omega)]) (by rw [d5.1 59 (by omega) (by omega)]) (by rw [d5.1 64 (by omega) (by omega)]) (by rw [d5.1 58 (by omega) (by omega)]), fun k hk => r5 k (by omega)⟩
    obtain ⟨N3, n3, u2, f1, f2, f3, f4, f5, f6, f7⟩ := ih q1 q2 N2 n NC (u + 1) (by omega) (by omega) (by omega) hU' (by omega)
    refine ⟨N3, n3, u2, ?_, ?_, f3, by omega, by omega, fun a ha => by rw [f6 a ha, w5 a (Or.inl ha)], by rw [f7, d5.2.1 0 (by omega) (by omega) (by omega)]⟩
    · rw [ei, w1 x K q1 hx, f1]
    · rw [ei, f_X11_run_L67, if_neg hn, d2, bd_some, nm_d, f2]
end Run4
