/-! ===== a step of a bundle is done: the law, the reference ===== -/
/-- a step's numbers -/
def SPL (M m : Mem) (k : Nat) : Prop := M 155 (6 * k) = m 58 k ∧ M 155 (6 * k + 1) = m 59 k ∧ M 155 (6 * k + 2) = m 60 k ∧ M 155 (6 * k + 3) = m 61 k ∧ M 155 (6 * k + 4) = m 62 k ∧ M 155 (6 * k + 5) = m 63 k ∧ (m 58 k = 1 → ∃ c, c < 4 ∧ m 61 k = nI c)
/-- what was kept of a step that was done -/
def WASL (M m : Mem) (j : Nat) (A B : Nat → List Row) : Prop := ∀ s r, s < 6 → m 59 j = nI s → r.1 = m 64 j → r ∈ (if m 58 j = 0 then B s else A s) → lg (M 157) j = pk r
section Run1
variable {fu t u t1 u1 k0 s i j p c k q : Nat} {M m N n P MC : Mem} {RR A B : Nat → List Row} {R : List Row} {r : Row} {v x y a b d e mk w : Int32}
theorem LR.n64 (h : LR M m t u) (fm : ∀ a, a ≠ 64 → a ≠ 65 → n a = m a) : LR M n t u :=
  h.stl (fun _ _ _ _ _ => rfl) (fun a _ _ => fm a (by omega) (by omega)) (fun j _ _ => by rw [fm 0 (by omega) (by omega)]) (by
    have hS := h.st
    simp only [STL, fm 0 (by omega) (by omega), fm 58 (by omega) (by omega), fm 59 (by omega) (by omega), fm 60 (by omega) (by omega), fm 61 (by omega) (by omega), fm 62 (by omega) (by omega), fm 63 (by omega) (by omega)]
    exact hS) h.e3c
theorem RLL.n64 (h : RLL M m RR) (fm : ∀ a, a ≠ 64 → a ≠ 65 → n a = m a) : RLL M n RR := h.cg rfl rfl (fm 1 (by omega) (by omega)) (fm 2 (by omega) (by omega)) (fm 3 (by omega) (by omega))
theorem LR.m157 (h : LR M m t u) (f : ∀ a, a ≠ 157 → N a = M a) : LR N m t u := h.cg (fun a _ z => f a (by omega)) .rfl (by rw [e3_cg (f 3 (by omega))]; exact h.e3c)
theorem RLL.m157 (h : RLL M m RR) (f : ∀ a, a ≠ 157 → N a = M a) : RLL N m RR := h.cg (f 142 (by omega)) (f 143 (by omega)) rfl rfl rfl
theorem e6j : (6 : Int32) * nI j = nI (6 * j) ∧ nI (6 * j) + 1 = nI (6 * j + 1) ∧ nI (6 * j) + 2 = nI (6 * j + 2) ∧ nI (6 * j) + 3 = nI (6 * j + 3) ∧ nI (6 * j) + 4 = nI (6 * j + 4) ∧ nI (6 * j) + 5 = nI (6 * j + 5) := ⟨by rw [show (6 : Int32) = nI 6 from rfl, pk_mul], nI_add _ 1, nI_add _ 2, nI_add _ 3, nI_add _ 4, nI_add _ 5⟩
/-- what is added, is kept and laid -/
theorem do_add (hfu : 5000 ≤ fu) (hL : LR P n t u) (hR : RLL P n RR) (hs : s < 6) (hl : (RR s).length < 10) (hmk : okm mk) (hf : fit s a b x y) (hj : j < 4) (h5 : P 155 (6 * j + 5) = y) : ∃ N, bm (f_L_kept fu (nI s) 1 b P) (fun r_39 M_40 => grd (inb (nI j) 4) (nm (upL M_40 157 (nI j).toNatClampNeg (f_L_packed mk a r_39 x (M_40 155 ((6 * (nI j)) + 5).toNatClampNeg))) (fun M_43 => bd (f_L_lay fu 142 60 143 6 (nI s) (lg (M_43 157) (nI j).toNatClampNeg) M_43) (fun M_45 => some ((1 : Int32), M_45))))) = some (1, N) ∧ LR N (minsM (up n 0 6 (n 0 6 + lo s b)) s (RR s) (mk, a, stv s b, x, y)) t u ∧ RLL N (minsM (up n 0 6 (n 0 6 + lo s b)) s (RR s) (mk, a, stv s b, x, y)) (setR RR s (insR (RR s) (mk, a, stv s b, x, y))) ∧ (∀ a, a ≠ 142 → a ≠ 143 → a ≠ 152 → a ≠ 157 → N a = P a) ∧ lg (N 157) j = pk (mk, a, stv s b, x, y) ∧ ∀ k, k ≠ j → lg (N 157) k = lg (P 157) k := by
  obtain ⟨f0, f1, f2, f3⟩ := hf
  obtain ⟨k0, _⟩ := fit_ok (c := 0) hs (by omega) f0
  obtain ⟨k1, _⟩ := fit_ok (c := 1) hs (by omega) f1
  obtain ⟨k2, _⟩ := fit_ok (c := 2) hs (by omega) f2
  obtain ⟨k3, _⟩ := fit_ok (c := 3) hs (by omega) f3
  obtain ⟨g0, g1, g2, g3, g4, g5⟩ := e6j (j := j)
  have e1 : f_L_kept fu (nI s) 1 b P = some (stv s b, up P 152 2 (P 152 2 + lo s b)) := lkept (c := 1) hs (by omega) (fun _ => rfl) k1
  obtain ⟨hL1, hR1⟩ := hL.los (x := lo s b) hR
  have f157 : ∀ a', a' ≠ 157 → upL (up P 152 2 (P 152 2 + lo s b)) 157 j (pk (mk, a, stv s b, x, y)) a' = up P 152 2 (P 152 2 + lo s b) a' := fun a' z => upL_n z
  obtain ⟨N, e2, hL2, hR2, g⟩ := (hL1.m157 f157).lay (r := (mk, a, stv s b, x, y)) hfu (hR1.m157 f157) hs hl hmk (fun q hq => by
    have : q = 0 ∨ q = 1 ∨ q = 2 ∨ q = 3 := by omega
    rcases this with rfl | rfl | rfl | rfl
    · exact k0
    · exact stv_ok k1
    · exact k2
    · exact k3)
  refine ⟨N, ?_, hL2, hR2, fun a' z1 z2 z3 z4 => by rw [g a' z1 z2, upL_n z4, up_n z3], by rw [g 157 (by omega) (by omega), upL_s], fun k hk => by rw [g 157 (by omega) (by omega), upL_m hk, up_n (by omega)]⟩
  have e5 : up P 152 2 (P 152 2 + lo s b) 155 (6 * j + 5) = y := by rw [up_n (by omega)]; exact h5
  have e2' : f_L_lay fu 142 60 143 6 (nI s) (f_L_packed mk a (stv s b) x y) (upL (up P 152 2 (P 152 2 + lo s b)) 157 j (f_L_packed mk a (stv s b) x y)) = some N := e2
  rw [e1, bm_some, inb_nI (by omega) (by omega), grd_true, nI_clamp (by omega), nm_d, g0, g5, nI_clamp (by omega), e5, upL_s, e2', bd_some]
/-- what a step that is done gives -/
def DONE (fu j : Nat) (M m : Mem) (t u s : Nat) (A : Nat → List Row) : Prop := ∃ N N2 n B r, f_L_does fu (nI j) M = some (1, N) ∧ f_L_written fu (nI s) N = some N2 ∧ f_X11_doesStep fu (nI j) m = some n ∧ LR N2 n t (u + 1) ∧ RLL N2 n B ∧ (∀ a, (a < 142 ∨ 153 < a) → a ≠ 157 → N2 a = M a) ∧ lg (N2 157) j = pk r ∧ (∀ k, k ≠ j → lg (N2 157) k = lg (M 157) k) ∧ r.1 = n 64 j ∧ r ∈ (if m 58 j = 0 then B s else A s) ∧ ∀ s', s' < 6 → (B s').length ≤ (A s').length + 1
theorem ins_mem : r ∈ insR R r := by
  rw [insR, List.mem_insertIdx pl_le]
  exact Or.inl rfl
theorem setLen (hs : s < 6) (h : (R.length ≤ (A s).length + 1)) : ∀ s', s' < 6 → (setR A s R s').length ≤ (A s').length + 1 := fun s' hs' => by
  by_cases z : s' = s
  · subst z; rw [setR_s]; exact h
  · rw [setR_n z]; omega
theorem does0 (hfu : 5000 ≤ fu) (h : LR M m t u) (hR : RLL M m A) (hW : WR MC m t u A) (hS : SPL M m j) (hj : j < 4) (hs : s < 6) (h59 : m 59 j = nI s) (kd : m 58 j = 0) (hl : (A s).length < 10) (hf : fit s (m 60 j) (m 61 j) (m 62 j) (m 63 j)) (hr : rm m A s (m 60 j)) (ht : t < 2 ^ 26) (hu : u < 62) : DONE fu j M m t u s A := by
  obtain ⟨g0, g1, g2, g3, g4, g5⟩ := e6j (j := j)
  obtain ⟨s0, s1, s2, s3, s4, s5, _⟩ := hS
  obtain ⟨hA, _, _⟩ := h.rest
  obtain ⟨q1, q2, q3⟩ := hR s hs
  have hle1 : (nI s ≤ 1) = (s < 2) := by
    rw [show (1 : Int32) = nI 1 from rfl, nI_leI (by omega) (by omega)]
    exact propext (by omega)
  have hle2 : ((2 : Int32) ≤ nI s) = ¬ (s < 2) := by
    rw [show (2 : Int32) = nI 2 from rfl, nI_leI (by omega) (by omega)]
    exact propext (by omega)
  have hf' : M 153 (6 + s) = m 4 s ∨ ¬ s < 2 := by
    by_cases z : s < 2
    · exact Or.inl (hA s z)
    · exact Or.inr z
  obtain ⟨_, _, l3⟩ := laddable (a := m 60 j) (b := m 61 j) (c := m 62 j) (d := m 63 j) (n := m) hfu q1 hs q3 hf'
  have l3' := l3 hf hr
  have hmk : okm (if s < 2 then m 4 s else m 60 j) := by
    by_cases z : s < 2
    · rw [if_pos z]
      obtain ⟨_, _, _, ⟨q, w1, w2, _⟩, _⟩ := hW.2.2.1 s hs
      exact ⟨q, by omega, w2⟩
    · rw [if_neg z]; exact key_ok hs z hf.1
  -- the reference
  have hR1 := hR.n64 (n := up m 64 j (m 60 j)) (fun a z _ => up_n z)
  have hL1 := h.n64 (n := up m 64 j (m 60 j)) (fun a z _ => up_n z)
  have ead := adds_eq (c := m 62 j) (d := m 63 j) (a := m 60 j) (b := m 61 j) (m := up m 64 j (m 60 j)) (mk := if s < 2 then m 4 s else m 60 j) hfu hs (hR1 s hs).2.1 hr.1 (fit_ok (c := 1) hs (by omega) hf.2.1).1 (by rw [up_n (by omega)])
  have fin : ∀ P n1, LR P n1 t u → RLL P n1 A → (∀ a, a ≠ 153 → P a = M a) → (n1 = if s < 2 then up (up m 64 j (m 60 j)) 4 s ((up m 64 j (m 60 j)) 4 s + 1) else up m 64 j (m 60 j)) → (∀ N, bm (f_L_kept fu (nI s) 1 (m 61 j) P) (fun r_39 M_40 => grd (inb (nI j) 4) (nm (upL M_40 157 (nI j).toNatClampNeg (f_L_packed (if s < 2 then m 4 s else m 60 j) (m 60 j) r_39 (m 62 j) (M_40 155 ((6 * (nI j)) + 5).toNatClampNeg))) (fun M_43 => bd (f_L_lay fu 142 60 143 6 (nI s) (lg (M_43 157) (nI j).toNatClampNeg) M_43) (fun M_45 => some ((1 : Int32), M_45))))) = some (1, N) → f_L_does fu (nI j) M = some (1, N)) → DONE fu j M m t u s A := by
    intro P n1 hP1 hP2 hP3 hn1 hd
    obtain ⟨N, w1, w2, w3, w4, w5, w6⟩ := do_add (mk := if s < 2 then m 4 s else m 60 j) (a := m 60 j) (b := m 61 j) (x := m 62 j) (y := m 63 j) hfu hP1 hP2 hs hl hmk hf hj (by rw [hP3 155 (by omega)]; exact s5)
    obtain ⟨N2, n2, e2, e3', hL2, f2, f3, f4, _, f6, _⟩ := w2.wrt hfu hs ht hu
    have h6 : n1 0 6 = (up m 64 j (m 60 j)) 0 6 := by
      rw [hn1]; split
      · rw [up_n (by omega)]
      · rfl
    rw [h6, hn1] at e3'
    rw [e3', bd_some] at ead
    have fU : ∀ a, a ≠ 64 → a ≠ 65 → up n2 64 j (if s < 2 then m 4 s else m 60 j) a = n2 a := fun a z _ => up_n z
    refine ⟨N, N2, up n2 64 j (if s < 2 then m 4 s else m 60 j), _, _, hd N w1, e2, ?_, hL2.n64 fU, (f6 _ w3).n64 fU, fun a z1 z2 => ?_, by rw [f2 157 (by omega) (by omega) (by omega) (by omega)]; exact w5, fun k hk => by rw [f2 157 (by omega) (by omega) (by omega) (by omega), w6 k hk, hP3 157 (by omega)], by rw [up_s], ?_, setLen hs (by rw [insR_len]; omega)⟩
    · rw [doM0 hj h59 (eq_true kd), ead, bm_some]
    · rw [f2 a (by omega) (by omega) (by omega) (by omega), w4 a (by omega) (by omega) (by omega) z2, hP3 a (by omega)]
    · rw [if_pos kd, setR_s]
      exact ins_mem
  by_cases z : s < 2
  · have hc1 : nI s ≤ 1 := by rw [hle1]; exact z
    have hc2 : ¬ (2 : Int32) ≤ nI s := by rw [hle2]; exact fun w => w z
    have e6 : (6 : Int32) + nI s = nI (6 + s) := nI_add 6 s
    obtain ⟨hL2, hR2⟩ := hL1.cnt hR1 z
    refine fin _ _ hL2 hR2 (fun a ha => up_n (by omega)) (by rw [if_pos z]) (fun N hN => ?_)
    rw [← hN]
    simp (disch := omega) only [f_L_does, g0, g1, g2, g3, g4, g5, inb_nI, grd_true, nI_clamp, nm_d, s0, s1, s2, s3, s4, s5, h59, kd, if_true, l3', bd_some, jn_d, hc1, hc2, if_false, e6, hA s z, z]
  · have hc1 : ¬ nI s ≤ 1 := by rw [hle1]; exact z
    have hc2 : (2 : Int32) ≤ nI s := by rw [hle2]; exact z
    refine fin _ _ hL1 hR1 (fun a ha => rfl) (by rw [if_neg z]) (fun N hN => ?_)
    rw [← hN]
    simp (disch := omega) only [f_L_does, g0, g1, g2, g3, g4, g5, inb_nI, grd_true, nI_clamp, nm_d, s0, s1, s2, s3, s4, s5, h59, kd, if_true, l3', bd_some, jn_d, hc1, hc2, if_false, z]
end Run1
