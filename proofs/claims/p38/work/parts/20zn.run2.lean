/-! ===== a step of a bundle is done: changes, removals, none ===== -/
section Run2
variable {fu t u t1 u1 k0 s i j p c k q : Nat} {M m N n P MC : Mem} {RR A B : Nat → List Row} {R : List Row} {r : Row} {v x y a b d e mk w : Int32}
theorem nn10 : ((-7100 : Int32) = 0) = False := by decide
theorem nn20 : ((-7200 : Int32) = 0) = False := by decide
theorem nn30 : ((-7300 : Int32) = 0) = False := by decide
theorem le0p (hp : p < 2 ^ 31) : ((0 : Int32) ≤ nI p) = True := eq_true (by rw [← Int32.not_lt]; exact nI_pos hp)
theorem does1 (hfu : 5000 ≤ fu) (h : LR M m t u) (hR : RLL M m A) (hW : WR MC m t u A) (hS : SPL M m j) (hj : j < 4) (hs : s < 6) (h59 : m 59 j = nI s) (kd : m 58 j = 1) (hp : fst (A s) (m 60 j) = some p) (hr : (A s)[p]? = some r) (ec : m 61 j = nI c) (hc : c < cs s) (hbad : ¬ (¬ s < 2 ∧ c = 0 ∨ f_X11_isCell (nI s) (nI c) (m 62 j) = 0)) (ht : t < 2 ^ 26) (hu : u < 62) : DONE fu j M m t u s A := by
  obtain ⟨g0, g1, g2, g3, g4, g5⟩ := e6j (j := j)
  obtain ⟨s0, s1, s2, s3, s4, s5, _⟩ := hS
  obtain ⟨q1, q2, q3⟩ := hR s hs
  have h4 := cs_le (s := s)
  have hc4 : c < 4 := by omega
  have hpl := gl_lt hr
  have h10 := q1.2.1
  obtain ⟨r', hr', hmk⟩ := fst_lt hp
  have hrr : r' = r := by rw [hr] at hr'; exact (Option.some.inj hr').symm
  subst hrr
  obtain ⟨ok1, ok2⟩ := fit_ok hs hc4 (fun z => hbad (Or.inr z))
  have hcw : s / 2 = 1 → c = 1 := fun z => by
    have : cs s = 2 := by simp only [cs, z, if_true]
    have : c ≠ 0 := fun y => hbad (Or.inl ⟨by omega, y⟩)
    omega
  have e10 : (10 : Int32) * nI s + nI p = nI (10 * s + p) := by rw [show (10 : Int32) = nI 10 from rfl, pk_mul, nI_add]
  have hpk : lg (M 142) (10 * s + p) = pk r' := q1.2.2 p r' hr
  have ep : f_L_place fu (nI s) (m 60 j) M = some (nI p) := by rw [lplace_eq hfu q1 hs q3, hp]; rfl
  have ecc : f_L_changeable fu (nI s) (m 60 j) (nI c) (m 62 j) M = some 0 := by
    rw [lchg hfu q1 hs q3 hc4, if_neg (by rw [hp]; simp; omega), if_neg hbad]
  have bw : f_L_with (pk r') (nI c) (stv s (m 62 j)) = pk (setc r' c (stv s (m 62 j))) := by
    have := (set_ok (v := stv s (m 62 j)) q1 q3 hr hc4 (stv_ok ok1)).1
    rw [hpk] at this
    exact this
  have hk := fun X => lkept (fu := fu) (M := X) hs hc4 hcw ok1
  have h0p := le0p (p := p) (by omega)
  have f157 : ∀ a', a' ≠ 157 → upL M 157 j (pk r') a' = M a' := fun a' z => upL_n z
  have fm : ∀ a, a ≠ 64 → a ≠ 65 → up m 64 j (m 60 j) a = m a := fun a z _ => up_n z
  have hL1 := (h.m157 f157).n64 fm
  have hR1 := (hR.m157 f157).n64 fm
  obtain ⟨hL2, hR2⟩ := hL1.los (x := lo s (m 62 j)) hR1
  obtain ⟨b1, hL3, hR3⟩ := hL2.put (v := stv s (m 62 j)) hR2 hs hr hc4 (stv_ok ok1)
  obtain ⟨N2, n2, e2, e3', hL4, f2, f3, f4, _, f6, _⟩ := hL3.wrt hfu hs ht hu
  have ekp := kept_eq (fu := fu) (m := up m 64 j (m 60 j)) hs hcw ok1 hc4
  have epu : f_X11_puts fu (nI s) (m 60 j) (nI c) (stv s (m 62 j)) (up (up m 64 j (m 60 j)) 0 6 ((up m 64 j (m 60 j)) 0 6 + lo s (m 62 j))) = some (cel r' c, n2) := by rw [puts_eq hfu hs (hR2 s hs).2.1 (hW.2.2.1 s hs).1.nd hp hr hc4, e3', bd_some]
  obtain ⟨z, z'⟩ := k1z kd
  have fU : ∀ a, a ≠ 64 → a ≠ 65 → up n2 65 (4 * j) (cel r' c) a = n2 a := fun a _ z => up_n z
  refine ⟨_, N2, up n2 65 (4 * j) (cel r' c), _, r', ?_, e2, ?_, hL4.n64 fU, (f6 _ hR3).n64 fU, fun a z1 z2 => ?_, ?_, fun k hk => ?_, ?_, ?_, setLen hs (by rw [List.length_set]; omega)⟩
  · simp (disch := omega) only [f_L_does, g0, g1, g2, g3, g4, g5, inb_nI, grd_true, nI_clamp, nm_d, s0, s1, s2, s3, s4, s5, h59, kd, n10, if_false, if_true, ep, bd_some, jn_d, ec, ecc, h0p, e10, hpk, upL_n, upL_s, hk, bm_some, bw]
  · rw [doM1 hj h59 z z', ec, ekp, bm_some, epu, bm_some]
  · rw [f2 a (by omega) (by omega) (by omega) (by omega), upL_n (by omega), up_n (by omega), upL_n z2]
  · rw [f2 157 (by omega) (by omega) (by omega) (by omega), upL_n (by omega), up_n (by omega), upL_s]
  · rw [f2 157 (by omega) (by omega) (by omega) (by omega), upL_n (by omega), up_n (by omega), upL_m hk]
  · rw [up_n (by omega), f4 64 (by omega) (by omega) (by omega), up_n (by omega), up_n (by omega), up_s, hmk]
  · rw [if_neg (by rw [kd]; decide)]
    exact List.mem_of_getElem? hr
theorem does2 (hfu : 5000 ≤ fu) (h : LR M m t u) (hR : RLL M m A) (hW : WR MC m t u A) (hS : SPL M m j) (hj : j < 4) (hs : s < 6) (h59 : m 59 j = nI s) (kd : m 58 j = 2) (hp : fst (A s) (m 60 j) = some p) (hr : (A s)[p]? = some r) (ht : t < 2 ^ 26) (hu : u < 62) : DONE fu j M m t u s A := by
  obtain ⟨g0, g1, g2, g3, g4, g5⟩ := e6j (j := j)
  obtain ⟨s0, s1, s2, s3, s4, s5, _⟩ := hS
  obtain ⟨q1, q2, q3⟩ := hR s hs
  have hpl := gl_lt hr
  have h10 := q1.2.1
  obtain ⟨r', hr', hmk⟩ := fst_lt hp
  have hrr : r' = r := by rw [hr] at hr'; exact (Option.some.inj hr').symm
  subst hrr
  have e10 : (10 : Int32) * nI s + nI p = nI (10 * s + p) := by rw [show (10 : Int32) = nI 10 from rfl, pk_mul, nI_add]
  have hpk : lg (M 142) (10 * s + p) = pk r' := q1.2.2 p r' hr
  have ep : f_L_place fu (nI s) (m 60 j) M = some (nI p) := by rw [lplace_eq hfu q1 hs q3, hp]; rfl
  have h0p := le0p (p := p) (by omega)
  obtain ⟨z, z'⟩ := k2z kd
  have f157 : ∀ a', a' ≠ 157 → upL M 157 j (pk r') a' = M a' := fun a' z => upL_n z
  -- the reference: its cells are kept
  obtain ⟨m2, d1, d2, d3, d4⟩ := copy4 (fu := fu) (K := fun (M_7 : Mem) => bd (f_X11_takesOut fu (nI s) (M_7 60 j) M_7) (fun M_9 => some M_9)) hfu hj hs (hW.2.2.1 s hs).1.nd hp hr 4 0 fu (up m 64 j (m 60 j)) (by omega) (by omega) (q2.cg (by rw [up_n (by omega)]) (up_n (by omega)) (up_n (by omega))) (by rw [up_n (by omega)]) (fun c hc => by omega)
  have fm : ∀ a, a ≠ 64 → a ≠ 65 → m2 a = m a := fun a z w => by rw [d3 a w, up_n z]
  have hL1 := (h.m157 f157).n64 fm
  have hR1 := (hR.m157 f157).n64 fm
  obtain ⟨N, e1, hL2, hR2, f1⟩ := hL1.rem hfu hR1 hs hpl
  obtain ⟨N2, n2, e2, e3', hL4, f2, f3, f4, _, f6, _⟩ := hL2.wrt hfu hs ht hu
  have etk : f_X11_takesOut fu (nI s) (m2 60 j) m2 = some n2 := by rw [fm 60 (by omega) (by omega), mtakes_eq hfu (hR1 s hs).2.1 hs (hW.2.2.1 s hs).1.nd hp, e3']
  refine ⟨N, N2, n2, _, r', ?_, e2, ?_, hL4, f6 _ hR2, fun a z1 z2 => ?_, ?_, fun k hk => ?_, ?_, ?_, setLen hs (by rw [List.length_eraseIdx]; split <;> omega)⟩
  · simp (disch := omega) only [f_L_does, g0, g1, g2, g3, g4, g5, inb_nI, grd_true, nI_clamp, nm_d, s0, s1, s2, s3, s4, s5, h59, kd, n20, n21, if_false, if_true, ep, bd_some, jn_d, h0p, e10, hpk, upL_n, e1]
  · rw [doM2 hj h59 z z', d1, etk, bd_some]
  · rw [f2 a (by omega) (by omega) (by omega) (by omega), f1 a (by omega) (by omega), upL_n z2]
  · rw [f2 157 (by omega) (by omega) (by omega) (by omega), f1 157 (by omega) (by omega), upL_s]
  · rw [f2 157 (by omega) (by omega) (by omega) (by omega), f1 157 (by omega) (by omega), upL_m hk]
  · rw [f4 64 (by omega) (by omega) (by omega), mdelM_n ⟨by omega, by omega, by omega⟩, d3 64 (by omega), up_s, hmk]
  · rw [if_neg (by rw [kd]; decide)]
    exact List.mem_of_getElem? hr
/-- a step that can't be done -/
theorem doesN (hfu : 5000 ≤ fu) (h : LR M m t u) (hR : RLL M m A) (hS : SPL M m j) (hj : j < 4) (hs : s < 6) (h59 : m 59 j = nI s) (hk : m 58 j = 0 ∨ m 58 j = 1 ∨ m 58 j = 2) (hn : ¬ CAN m A s j) : f_L_does fu (nI j) M = some (0, M) := by
  obtain ⟨g0, g1, g2, g3, g4, g5⟩ := e6j (j := j)
  obtain ⟨s0, s1, s2, s3, s4, s5, s6⟩ := hS
  obtain ⟨hA, _, _⟩ := h.rest
  obtain ⟨q1, q2, q3⟩ := hR s hs
  have h10 := q1.2.1
  rcases hk with kd | kd | kd
  · have hf' : M 153 (6 + s) = m 4 s ∨ ¬ s < 2 := by
      by_cases z : s < 2
      · exact Or.inl (hA s z)
      · exact Or.inr z
    obtain ⟨l1, l2, _⟩ := laddable (a := m 60 j) (b := m 61 j) (c := m 62 j) (d := m 63 j) (n := m) hfu q1 hs q3 hf'
    by_cases z1 : fit s (m 60 j) (m 61 j) (m 62 j) (m 63 j)
    · have z2 : ¬ rm m A s (m 60 j) := fun z => hn (Or.inl ⟨kd, z1, z⟩)
      have l2' := l2 z1 z2
      simp (disch := omega) only [f_L_does, g0, g1, g2, g3, g4, g5, inb_nI, grd_true, nI_clamp, nm_d, s0, s1, s2, s3, s4, s5, h59, kd, if_true, l2', bd_some, nn30, if_false]
    · have l1' := l1 z1
      simp (disch := omega) only [f_L_does, g0, g1, g2, g3, g4, g5, inb_nI, grd_true, nI_clamp, nm_d, s0, s1, s2, s3, s4, s5, h59, kd, if_true, l1', bd_some, nn20, if_false]
  · obtain ⟨c, hc, ec⟩ := s6 kd
    have ep := lplace_eq (m := m 60 j) (fu := fu) hfu q1 hs q3
    have ecc := lchg (v := m 60 j) (x := m 62 j) (fu := fu) hfu q1 hs q3 hc
    have : (if fst (A s) (m 60 j) = none ∨ ¬ c < cs s then (-7100 : Int32) else if ¬ s < 2 ∧ c = 0 ∨ f_X11_isCell (nI s) (nI c) (m 62 j) = 0 then -7200 else 0) = -7100 ∨ (if fst (A s) (m 60 j) = none ∨ ¬ c < cs s then (-7100 : Int32) else if ¬ s < 2 ∧ c = 0 ∨ f_X11_isCell (nI s) (nI c) (m 62 j) = 0 then -7200 else 0) = -7200 := by
      by_cases z1 : fst (A s) (m 60 j) = none ∨ ¬ c < cs s
      · exact Or.inl (if_pos z1)
      · by_cases z2 : ¬ s < 2 ∧ c = 0 ∨ f_X11_isCell (nI s) (nI c) (m 62 j) = 0
        · exact Or.inr (by rw [if_neg z1, if_pos z2])
        · exfalso
          cases hp : fst (A s) (m 60 j) with
          | none => exact z1 (Or.inl hp)
          | some p =>
            obtain ⟨r, hr, _⟩ := fst_lt hp
            exact hn (Or.inr (Or.inl ⟨kd, p, r, c, hp, hr, ec, by omega, z2⟩))
    rcases this with w | w <;> rw [w] at ecc <;>
      simp (disch := omega) only [f_L_does, g0, g1, g2, g3, g4, g5, inb_nI, grd_true, nI_clamp, nm_d, s0, s1, s2, s3, s4, s5, h59, kd, n10, if_true, if_false, ep, bd_some, jn_d, ec, ecc, nn10, nn20]
  · have ep := lplace_eq (m := m 60 j) (fu := fu) hfu q1 hs q3
    have hno : fst (A s) (m 60 j) = none := by
      cases hp : fst (A s) (m 60 j) with
      | none => rfl
      | some p =>
        obtain ⟨r, hr, _⟩ := fst_lt hp
        exact absurd (Or.inr (Or.inr ⟨kd, p, r, hp, hr⟩)) hn
    have eo := oIpos (m := m 60 j) (R := A s) (by omega)
    rw [hno] at ep eo
    have eo' : ((0 : Int32) ≤ oI none) = False := by rw [eo]; simp
    simp (disch := omega) only [f_L_does, g0, g1, g2, g3, g4, g5, inb_nI, grd_true, nI_clamp, nm_d, s0, s1, s2, s3, s4, s5, h59, kd, n20, n21, if_true, if_false, ep, bd_some, jn_d, eo']
theorem doesL (hfu : 5000 ≤ fu) (h : LR M m t u) (hR : RLL M m A) (hW : WR MC m t u A) (hS : SPL M m j) (hj : j < 4) (hs : s < 6) (h59 : m 59 j = nI s) (hl : (A s).length < 10) (hc : CAN m A s j) (ht : t < 2 ^ 26) (hu : u < 62) : DONE fu j M m t u s A := by
  rcases hc with ⟨kd, hf, hr⟩ | ⟨kd, p, r, c, hp, hr, ec, hc, hbad⟩ | ⟨kd, p, r, hp, hr⟩
  · exact does0 hfu h hR hW hS hj hs h59 kd hl hf hr ht hu
  · exact does1 hfu h hR hW hS hj hs h59 kd hp hr ec hc hbad ht hu
  · exact does2 hfu h hR hW hS hj hs h59 kd hp hr ht hu
end Run2
