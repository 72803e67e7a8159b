/-! ===== a step of a bundle is done: both, whole ===== -/
section Do2
variable {fu nS nL nC nO i j s t u e p c k : Nat} {M m N n : Mem} {RR RR' A B : Nat → List Row} {R : List Row} {r : Row} {v x p1 p2 p3 p4 p5 p6 : Int32}
theorem do2A (hfu : 5000 ≤ fu) (hW : WR M m t u A) (hj : j < 4) (hs : s < 6) (k59 : m 59 j = nI s) (k124 : M 124 j = nI s) (k123 : M 123 j = m 58 j) (q0 : M 125 (4 * j) = m 60 j) (q1 : M 125 (4 * j + 1) = m 61 j) (q2 : M 125 (4 * j + 2) = m 62 j) (q3 : M 125 (4 * j + 3) = m 63 j) (ht : t < 2 ^ 29) (hu : u < 2 ^ 29) (kd : m 58 j = 0) (hf : fit s (m 60 j) (m 61 j) (m 62 j) (m 63 j)) (hr : rm m A s (m 60 j)) : ∃ N n B, f_X2_doStep fu (nI j) M = some N ∧ f_X11_doesStep fu (nI j) m = some n ∧ WR N n t (u + 1) B ∧ UN N n j A B ∧ N 126 j = 1 ∧ FCd j N M ∧ FMd j n m := by
  have z := k0z kd
  obtain ⟨g1, g2, g3, g4, g5⟩ := hW.2.2.1 s hs
  have hW1 : WR (up (up M 127 j (m 60 j)) 126 j 1) (up m 64 j (m 60 j)) t u A := hW.fr (fun a ha => by rw [up_n (by omega), up_n (by omega)]) (fun a ha => up_n (by omega))
  have hr1 : rm (up m 64 j (m 60 j)) A s (m 60 j) := ⟨hr.1, by rw [up_n (by omega)]; exact hr.2.1, hr.2.2⟩
  obtain ⟨N, n, e1, e2, e3, e4, e5, e6⟩ := add2 (fu := fu) hfu hs hW1 ht hu (fit_canA hs hf hr1)
  generalize hrr : addR (up m 64 j (m 60 j)) s (m 60 j) (m 61 j) (m 62 j) (m 63 j) = r at *
  refine ⟨up N 127 j r.1, up n 64 j r.1, setR A s (insR (A s) r), ?_, ?_, e3.fr (fun a ha => up_n (by omega)) (fun a ha => up_n (by omega)), ⟨s, r, hs, ?_, ?_, ?_, g1, (hW.2.1 s hs).1.2.1, Or.inl ⟨?_, rfl, e6, up_s, up_s⟩⟩, ?_, ⟨fun a ha => ?_, fun k hk => ⟨?_, ?_, ?_⟩⟩, fun a h1 h2 h3 h4 => ?_, fun i h1 h2 h3 => ?_, fun k hk => ?_, fun q hq => ?_, fun s' a hs' e ha => ?_⟩
  · rw [doC0 hj k124 (by rw [k123]; exact z), q0, q1, q2, q3, e1, bm_some]
  · rw [doM0 hj k59 z, e2, bm_some]
  · rw [up_n (by omega), e5.1 59 (by omega) (by omega), up_n (by omega)]; exact k59
  · rw [up_n (by omega), e4 124 (by omega), up_n (by omega), up_n (by omega)]; exact k124
  · rw [up_n (by omega), e4 123 (by omega), up_n (by omega), up_n (by omega), up_n (by omega), e5.1 58 (by omega) (by omega), up_n (by omega)]; exact k123
  · rw [up_n (by omega), e5.1 58 (by omega) (by omega), up_n (by omega)]; exact kd
  · rw [up_n (by omega), e4 126 (by omega), up_s]
  · rw [up_n (by omega), e4 a (by omega), up_n (by omega), up_n (by omega)]
  · rw [up_n (by omega), e4 126 (by omega), up_m hk, up_n (by omega)]
  · rw [up_m hk, e4 127 (by omega), up_n (by omega), up_m hk]
  · rw [up_n (by omega), e4 128 (by omega), up_n (by omega), up_n (by omega)]
  · rw [up_n h3, e5.1 a h1 h2, up_n h3]
  · rw [up_n (by omega), e5.2.1 i h1 h2 h3, up_n (by omega)]
  · rw [up_m hk, e5.1 64 (by omega) (by omega), up_m hk]
  · rw [up_n (by omega), e5.1 65 (by omega) (by omega), up_n (by omega)]
  · rw [up_n (by omega)]
    exact e5.2.2 s' a hs' (by rw [up_n (by omega)]; exact e) ha
theorem do2B (hfu : 5000 ≤ fu) (hW : WR M m t u A) (hj : j < 4) (hs : s < 6) (k59 : m 59 j = nI s) (k124 : M 124 j = nI s) (k123 : M 123 j = m 58 j) (q0 : M 125 (4 * j) = m 60 j) (q1 : M 125 (4 * j + 1) = m 61 j) (q2 : M 125 (4 * j + 2) = m 62 j) (ht : t < 2 ^ 29) (hu : u < 2 ^ 29) (kd : m 58 j = 1) (hp : fst (A s) (m 60 j) = some p) (hr : (A s)[p]? = some r) (ec : m 61 j = nI c) (hc : c < cs s) (hbad : ¬ (¬ s < 2 ∧ c = 0 ∨ f_X11_isCell (nI s) (nI c) (m 62 j) = 0)) : ∃ N n B, f_X2_doStep fu (nI j) M = some N ∧ f_X11_doesStep fu (nI j) m = some n ∧ WR N n t (u + 1) B ∧ UN N n j A B ∧ N 126 j = 1 ∧ FCd j N M ∧ FMd j n m := by
  obtain ⟨z, z'⟩ := k1z kd
  obtain ⟨g1, g2, g3, g4, g5⟩ := hW.2.2.1 s hs
  have h4 := cs_le (s := s)
  obtain ⟨ok1, ok2⟩ := fit_ok hs (show c < 4 by omega) (fun z => hbad (Or.inr z))
  have hcw : s / 2 = 1 → c = 1 := fun z => by
    have : cs s = 2 := by simp only [cs, z, if_true]
    have : c ≠ 0 := fun y => hbad (Or.inl ⟨by omega, y⟩)
    omega
  obtain ⟨r', hr', hmk⟩ := fst_lt hp
  have hrr : r' = r := by rw [hr] at hr'; exact (Option.some.inj hr').symm
  subst hrr
  have hW1 : WR (up (up M 127 j (m 60 j)) 126 j 1) (up m 64 j (m 60 j)) t u A := hW.fr (fun a ha => by rw [up_n (by omega), up_n (by omega)]) (fun a ha => up_n (by omega))
  obtain ⟨N, n, e1, e2, e3, e4, e5⟩ := change2 (fu := fu) (v := m 62 j) (w := 0) hfu hs hW1 ht hu hp hr (show c < 4 by omega) hcw ok1 (fun z => ok2 z (hcw z))
  have hk := kept_eq (fu := fu) (m := up m 64 j (m 60 j)) hs hcw ok1 (show c < 4 by omega)
  refine ⟨up N 128 j (cel r' c), up n 65 (4 * j) (cel r' c), _, ?_, ?_, e3.fr (fun a ha => up_n (by omega)) (fun a ha => up_n (by omega)), ⟨s, r', hs, ?_, ?_, ?_, g1, (hW.2.1 s hs).1.2.1, Or.inr (Or.inl ⟨?_, hW.okr hs (List.mem_of_getElem? hr), p, c, stv s (m 62 j), by rw [hmk]; exact hp, hr, by omega, hcw, rfl, ?_, ?_, ?_, ?_, up_s, up_s⟩)⟩, ?_, ⟨fun a ha => ?_, fun k hk => ⟨?_, ?_, ?_⟩⟩, fun a h1 h2 h3 h4 => ?_, fun i h1 h2 h3 => ?_, fun k hk => ?_, fun q hq => ?_, fun s' a hs' e ha => ?_⟩
  · rw [doC1 hj k124 (by rw [k123]; exact z) (by rw [k123]; exact z'), q0, q1, q2, ec, e1, bm_some]
  · rw [doM1 hj k59 z z', ec, hk, bm_some, e2, bm_some]
  · rw [up_n (by omega), e5.1 59 (by omega) (by omega), up_n (by omega)]; exact k59
  · rw [up_n (by omega), e4 124 (by omega), up_n (by omega), up_n (by omega)]; exact k124
  · rw [up_n (by omega), e4 123 (by omega), up_n (by omega), up_n (by omega), up_n (by omega), e5.1 58 (by omega) (by omega), up_n (by omega)]; exact k123
  · rw [up_n (by omega), e5.1 58 (by omega) (by omega), up_n (by omega)]; exact kd
  · rw [up_n (by omega), e4 127 (by omega), up_n (by omega), up_s, hmk]
  · rw [up_n (by omega), e5.1 64 (by omega) (by omega), up_s, hmk]
  · rw [up_n (by omega), e4 125 (by omega), up_n (by omega), up_n (by omega), q1, ec]
  · rw [up_n (by omega), e5.1 61 (by omega) (by omega), up_n (by omega), ec]
  · rw [up_n (by omega), e4 126 (by omega), up_s]
  · rw [up_n (by omega), e4 a (by omega), up_n (by omega), up_n (by omega)]
  · rw [up_n (by omega), e4 126 (by omega), up_m hk, up_n (by omega)]
  · rw [up_n (by omega), e4 127 (by omega), up_n (by omega), up_m hk]
  · rw [up_m hk, e4 128 (by omega), up_n (by omega), up_n (by omega)]
  · rw [up_n h4, e5.1 a h1 h2, up_n h3]
  · rw [up_n (by omega), e5.2.1 i h1 h2 h3, up_n (by omega)]
  · rw [up_n (by omega), e5.1 64 (by omega) (by omega), up_m hk]
  · rw [up_m (by omega), e5.1 65 (by omega) (by omega), up_n (by omega)]
  · rw [up_n (by omega)]
    exact e5.2.2 s' a hs' (by rw [up_n (by omega)]; exact e) ha
theorem do2C (hfu : 5000 ≤ fu) (hW : WR M m t u A) (hj : j < 4) (hs : s < 6) (k59 : m 59 j = nI s) (k124 : M 124 j = nI s) (k123 : M 123 j = m 58 j) (q0 : M 125 (4 * j) = m 60 j) (ht : t < 2 ^ 29) (hu : u < 2 ^ 29) (kd : m 58 j = 2) (hp : fst (A s) (m 60 j) = some p) (hr : (A s)[p]? = some r) : ∃ N n B, f_X2_doStep fu (nI j) M = some N ∧ f_X11_doesStep fu (nI j) m = some n ∧ WR N n t (u + 1) B ∧ UN N n j A B ∧ N 126 j = 1 ∧ FCd j N M ∧ FMd j n m := by
  obtain ⟨z, z'⟩ := k2z kd
  obtain ⟨g1, g2, g3, ⟨ad, ad1, ad2, ad3⟩, g5⟩ := hW.2.2.1 s hs
  obtain ⟨hC, hM⟩ := hW.2.1 s hs
  obtain ⟨r', hr', hmk⟩ := fst_lt hp
  have hrr : r' = r := by rw [hr] at hr'; exact (Option.some.inj hr').symm
  subst hrr
  -- the class: the row is kept
  generalize hM1 : up (up (up M 127 j (m 60 j)) 126 j 1) (130 + 3 * j) 2 0 = M1
  have f1 : ∀ a, a ≠ 126 → a ≠ 127 → a ≠ 130 + 3 * j → M1 a = M a := fun a y1 y2 y3 => by rw [← hM1, up_n y3, up_n y1, up_n y2]
  have hC1 : RC M1 (62 + 3 * s) (A s) := hC.cg (by rw [f1 _ (by omega) (by omega) (by omega)]) (f1 _ (by omega) (by omega) (by omega)) (f1 _ (by omega) (by omega) (by omega))
  have hE : RC M1 (130 + 3 * j) [] := ⟨by rw [← hM1, up_s]; rfl, by simp, fun k r hr => by simp at hr⟩
  have e1 : f_X6_placeOf fu (62 + 3 * s) (m 60 j) M1 = some (nI p) := by rw [placeOf_eq hfu hC1, hp]; rfl
  have e2 := takeRow_eq (fu := fu) hfu hE (by simp) hC1 hr (Or.inr (by omega))
  have hI := insM_RC (r := r') hE (by simp)
  generalize hM2 : insM M1 (130 + 3 * j) [] r' = M2 at *
  have f2 : ∀ a, a ≠ 130 + 3 * j → a ≠ 130 + 3 * j + 1 → a ≠ 130 + 3 * j + 2 → M2 a = M1 a := fun a y1 y2 y3 => by rw [← hM2, insM_n ⟨y1, y2, y3⟩]
  have hI1 : insR [] r' = [r'] := rfl
  rw [hI1] at hI
  -- the reference: its cells are kept
  obtain ⟨m2, d1, d2, d3, d4⟩ := copy4 (fu := fu) (K := fun (M_7 : Mem) => bd (f_X11_takesOut fu (nI s) (M_7 60 j) M_7) (fun M_9 => some M_9)) hfu hj hs g1.nd hp hr 4 0 fu (up m 64 j (m 60 j)) (by omega) (by omega) (hM.cg (by rw [up_n (by omega)]) (up_n (by omega)) (up_n (by omega))) (by rw [up_n (by omega)]) (fun c hc => by omega)
  have hW1 : WR M2 m2 t u A := hW.fr (fun a ha => by rw [f2 a (by omega) (by omega) (by omega), f1 a (by omega) (by omega) (by omega)]) (fun a ha => by rw [d3 a (by omega), up_n (by omega)])
  obtain ⟨N, n, w1, w2, w3, w4, w5⟩ := remove2 (fu := fu) (mk := m 60 j) hfu hs hW1 ht hu hp
  have fN : ∀ a, 80 ≤ a → a ≠ 126 → a ≠ 127 → a ≠ 130 + 3 * j → a ≠ 130 + 3 * j + 1 → a ≠ 130 + 3 * j + 2 → N a = M a := fun a y0 y1 y2 y3 y4 y5 => by rw [w4 a (by omega), f2 a y3 y4 y5, f1 a y1 y2 y3]
  have fn : ∀ a, 5 < a → a < 30 ∨ 41 < a → a ≠ 64 → a ≠ 65 → n a = m a := fun a y0 y1 y2 y3 => by rw [w5.1 a y0 y1, d3 a y3, up_n y2]
  refine ⟨N, n, _, ?_, ?_, w3, ⟨s, r', hs, ?_, ?_, ?_, g1, hC.2.1, Or.inr (Or.inr ⟨?_, hW.okr hs (List.mem_of_getElem? hr), p, by rw [hmk]; exact hp, hr, rfl, ?_, hI.cg ?_ ?_ ?_, ⟨?_, ?_, ?_, ?_⟩, fun y => ?_⟩)⟩, ?_, ⟨fun a ha => ?_, fun k hk => ⟨?_, ?_, ?_⟩⟩, fn, fun i h1 h2 h3 => ?_, fun k hk => ?_, fun q hq => ?_, fun s' a hs' e ha => ?_⟩
  · rw [doC2 hj hs k124 (by rw [k123]; exact z) (by rw [k123]; exact z'), q0, hM1, e1, bd_some, e2, bd_some, f2 127 (by omega) (by omega) (by omega), ← hM1, up_n (by omega), up_n (by omega), up_s, w1, bd_some]
  · rw [doM2 hj k59 z z', d1]
    rw [d3 60 (by omega), up_n (by omega), w2, bd_some]
  · rw [fn 59 (by omega) (by omega) (by omega) (by omega)]; exact k59
  · rw [fN 124 (by omega) (by omega) (by omega) (by omega) (by omega) (by omega)]; exact k124
  · rw [fN 123 (by omega) (by omega) (by omega) (by omega) (by omega) (by omega), fn 58 (by omega) (by omega) (by omega) (by omega)]; exact k123
  · rw [fn 58 (by omega) (by omega) (by omega) (by omega)]; exact kd
  · rw [w5.1 64 (by omega) (by omega), d3 64 (by omega), up_s, hmk]
  · rw [w4 _ (by omega)]
  · rw [w4 _ (by omega)]
  · rw [w4 _ (by omega)]
  · rw [w5.1 65 (by omega) (by omega)]; exact d2 0 (by omega)
  · rw [w5.1 65 (by omega) (by omega)]; exact d2 1 (by omega)
  · rw [w5.1 65 (by omega) (by omega)]; exact d2 2 (by omega)
  · rw [w5.1 65 (by omega) (by omega)]; exact d2 3 (by omega)
  · obtain ⟨k, k1, k2⟩ := ad3 y r' (List.mem_of_getElem? hr)
    obtain ⟨a', b1, b2, b3⟩ := w5.2.2 s ad hs (by rw [d3 4 (by omega), up_n (by omega)]; exact ad2) ad1
    exact ⟨k, a', k2, by omega, b2, b3⟩
  · rw [w4 126 (by omega), f2 126 (by omega) (by omega) (by omega), ← hM1, up_n (by omega), up_s]
  · exact (by
      rcases ha with rfl | rfl | ⟨a1, a2⟩ | ⟨a1, a2, a3, a4⟩
      · rw [w4 _ (by omega), f2 _ (by omega) (by omega) (by omega), f1 _ (by omega) (by omega) (by omega)]
      · rw [w4 _ (by omega), f2 _ (by omega) (by omega) (by omega), f1 _ (by omega) (by omega) (by omega)]
      · exact fN a (by omega) (by omega) (by omega) (by omega) (by omega) (by omega)
      · exact fN a (by omega) (by omega) (by omega) a2 a3 a4)
  · rw [w4 126 (by omega), f2 126 (by omega) (by omega) (by omega), ← hM1, up_n (by omega), up_m hk, up_n (by omega)]
  · rw [w4 127 (by omega), f2 127 (by omega) (by omega) (by omega), ← hM1, up_n (by omega), up_n (by omega), up_m hk]
  · rw [fN 128 (by omega) (by omega) (by omega) (by omega) (by omega) (by omega)]
  · rw [w5.2.1 i h1 h2 h3, d3 0 (by omega), up_n (by omega)]
  · rw [w5.1 64 (by omega) (by omega), d3 64 (by omega), up_m hk]
  · rw [w5.1 65 (by omega) (by omega), d4 q hq, up_n (by omega)]
  · exact w5.2.2 s' a hs' (by rw [d3 4 (by omega), up_n (by omega)]; exact e) ha
theorem do2 (hfu : 5000 ≤ fu) (hW : WR M m t u A) (hj : j < 4) (hs : s < 6) (k59 : m 59 j = nI s) (k124 : M 124 j = nI s) (k123 : M 123 j = m 58 j) (q0 : M 125 (4 * j) = m 60 j) (q1 : M 125 (4 * j + 1) = m 61 j) (q2 : M 125 (4 * j + 2) = m 62 j) (q3 : M 125 (4 * j + 3) = m 63 j) (ht : t < 2 ^ 29) (hu : u < 2 ^ 29) (h : CAN m A s j) : ∃ N n B, f_X2_doStep fu (nI j) M = some N ∧ f_X11_doesStep fu (nI j) m = some n ∧ WR N n t (u + 1) B ∧ UN N n j A B ∧ N 126 j = 1 ∧ FCd j N M ∧ FMd j n m := by
  rcases h with ⟨kd, hf, hr⟩ | ⟨kd, p, r, c, hp, hr, ec, hc, hbad⟩ | ⟨kd, p, r, hp, hr⟩
  · exact do2A hfu hW hj hs k59 k124 k123 q0 q1 q2 q3 ht hu kd hf hr
  · exact do2B hfu hW hj hs k59 k124 k123 q0 q1 q2 ht hu kd hp hr ec hc hbad
  · exact do2C hfu hW hj hs k59 k124 k123 q0 ht hu kd hp hr
end Do2
