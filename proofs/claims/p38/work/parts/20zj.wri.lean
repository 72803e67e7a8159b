/-! ===== writes ===== -/
section WriL
variable {fu t u t1 u1 k0 s i j p c k : Nat} {M m N n P M0 m0 : Mem} {RR RR' : Nat → List Row} {R : List Row} {r : Row} {v x y a b c' d e mk w p1 p2 p3 p4 p5 : Int32}
theorem xadd1 (h : f_X11_isSource p1 = 0) : f_X11_add fu p1 p2 p3 p4 p5 m = some (0, up m 0 0 (nI 1)) := by
  simp only [f_X11_add, jn_d, nm_d, h, if_true, up_s, le10, if_false]
  rfl
theorem xadd2 (hs : s < 6) (h : f_X11_canAdd fu (nI s) p2 p3 p4 p5 m = some v) (hv : ¬ v ≤ 0) : f_X11_add fu (nI s) p2 p3 p4 p5 m = some (0, up m 0 0 v) := by
  simp only [f_X11_add, jn_d, nm_d, isSr hs, h, bd_some, up_s, hv, if_false]
theorem xadd0 (hs : s < 6) (h : f_X11_canAdd fu (nI s) p2 p3 p4 p5 m = some 0) (ha : f_X11_adds fu (nI s) p2 p3 p4 p5 (up m 0 0 0) = some (w, n)) : f_X11_add fu (nI s) p2 p3 p4 p5 m = some (w, n) := by
  simp only [f_X11_add, jn_d, nm_d, isSr hs, h, bd_some, up_s, Int32.le_refl, if_true, if_false, ha, bm_some]
theorem add_e (hfu : 5000 ≤ fu) (h : SM M m M0 m0 t u) (ht : t < 2 ^ 29) (hu : u < 2 ^ 29) (hk : k0 = 1 ∨ k0 = 2 ∨ k0 = 3) (hx : f_X11_add fu p1 p2 p3 p4 p5 m = some (0, up m 0 0 (nI k0))) : ∃ M' m', f_L_add fu p1 p2 p3 p4 p5 M = some (ek k0, M') ∧ SM M' m' M0 m0 t u := by
  obtain ⟨M', a1, a2⟩ := eC (k0 := k0) (cs := [1, 2, 3]) h (add_call (p1 := p1) (p2 := p2) (p3 := p3) (p4 := p4) (p5 := p5) hfu h.1 ht hu) hx .up0 (by rw [up_s]; rfl) (by rcases hk with rfl | rfl | rfl <;> decide) (by rcases hk with rfl | rfl | rfl <;> decide) (by rcases hk with rfl | rfl | rfl <;> simp) ht hu
  exact ⟨M', _, by rw [if_neg (by omega)] at a1; exact a1, a2⟩
theorem count_k (h : SM M m M0 m0 t u) (ht : t < 2 ^ 29) (hu : u < 2 ^ 29) (hs : s < 6) : ∃ M' m', f_L_count fu (nI s) M = some (m 1 s, M') ∧ SM M' m' M0 m0 t u := by
  obtain ⟨M', a1, a2⟩ := eC (k0 := 0) (cs := [1]) h (count_call (fu := fu) (p1 := nI s) h.1) (xcount hs) .up0 (by rw [up_s]; rfl) (by decide) (by decide) (by decide) ht hu
  exact ⟨M', _, a1, a2⟩
theorem nf1 : ∀ s : Fin 6, f_X11_isCell (nI s.val) 1 1000 = 0 ∧ f_X11_isCell (nI s.val) 0 4999 = 0 ∧ f_X11_isCell (nI s.val) 3 (-1000) = 0 := by decide +kernel
theorem key_ok (hs : s < 6) (h2 : ¬ s < 2) (h : f_X11_isCell (nI s) 0 a ≠ 0) : okm a := by
  have e := lcan (v := a) (c := 0) hs (by omega)
  have e' : f_L_can (nI s) 0 a = f_X11_isCell (nI s) 0 a := e
  rw [← e'] at h
  have key : ∀ y : Int32, y = nI s → (y ≤ 1) = False → f_L_can y 0 a ≠ 0 → ¬ a < 0 ∧ ¬ 100 ≤ a := by
    intro y hy h1 hh
    simp only [f_L_can, jn_d, h1, if_false, if_true] at hh
    rw [if_pos (show (0 : Int32) ≤ 1 from by decide)] at hh
    by_cases z1 : a < 0
    · simp [z1] at hh
    · by_cases z2 : 100 ≤ a
      · simp [z1, z2] at hh
      · exact ⟨z1, z2⟩
  have h1 : (nI s ≤ 1) = False := by
    rw [show (1 : Int32) = nI 1 from rfl, nI_leI (by omega) (by omega)]
    exact eq_false (by omega)
  obtain ⟨z1, z2⟩ := key (nI s) rfl h1 h
  obtain ⟨k, hk, rfl⟩ := nI_of z1
  refine ⟨k, ?_, rfl⟩
  rw [show (100 : Int32) = nI 100 from rfl, nI_leI (by omega) hk] at z2
  omega
/-- what is added, is laid and written -/
theorem wr_add (hfu : 5000 ≤ fu) (hL : LR P n t u) (hR : RLL P n RR) (hs : s < 6) (hl : (RR s).length < 10) (hmk : okm mk) (hf : fit s a b c' d) (ht : t < 2 ^ 26) (hu : u < 62) : ∃ N n', bm (f_L_kept fu (nI s) 1 b P) (fun r_115 M_116 => bd (f_L_lay fu 142 60 143 6 (nI s) (f_L_packed mk a r_115 c' d) M_116) (fun M_119 => bd (f_L_written fu (nI s) M_119) (fun M_121 => some (0, M_121)))) = some ((0 : Int32), N) ∧ f_X11_writes fu (nI s) (minsM (up n 0 6 (n 0 6 + lo s b)) s (RR s) (mk, a, stv s b, c', d)) = some n' ∧ LR N n' t (u + 1) ∧ (∀ a, a < 142 → N a = P a) ∧ n' 0 0 = n 0 0 := by
  obtain ⟨f0, f1, f2, f3⟩ := hf
  obtain ⟨k0, _⟩ := fit_ok (c := 0) hs (by omega) f0
  obtain ⟨k1, _⟩ := fit_ok (c := 1) hs (by omega) f1
  obtain ⟨k2, _⟩ := fit_ok (c := 2) hs (by omega) f2
  obtain ⟨k3, _⟩ := fit_ok (c := 3) hs (by omega) f3
  have e1 : f_L_kept fu (nI s) 1 b P = some (stv s b, up P 152 2 (P 152 2 + lo s b)) := lkept (c := 1) hs (by omega) (fun _ => rfl) k1
  obtain ⟨hL1, hR1⟩ := hL.los (x := lo s b) hR
  obtain ⟨N, e2, hL2, hR2, g2⟩ := hL1.lay (r := (mk, a, stv s b, c', d)) hfu hR1 hs hl hmk (fun q hq => by
    have : q = 0 ∨ q = 1 ∨ q = 2 ∨ q = 3 := by omega
    rcases this with rfl | rfl | rfl | rfl
    · exact k0
    · exact stv_ok k1
    · exact k2
    · exact k3)
  have e2' : f_L_lay fu 142 60 143 6 (nI s) (f_L_packed mk a (stv s b) c' d) (up P 152 2 (P 152 2 + lo s b)) = some N := e2
  obtain ⟨N2, n2, e3', e4, hL3, g3, g4, _⟩ := hL2.wrt hfu hs ht hu
  refine ⟨N2, n2, ?_, e4, hL3, fun a ha => by rw [g3 a (by omega) (by omega) (by omega) (by omega), g2 a (by omega) (by omega), up_n (by omega)], by rw [g4, minsM_n ⟨by omega, by omega, by omega⟩, up_m (by omega)]⟩
  rw [e1, bm_some, e2', bd_some, e3', bd_some]
theorem bmbd {f : Option (Int32 × Mem)} {g : Int32 → Mem → Option Mem} {h : Mem → Option Mem} {K : Mem → Option (Int32 × Mem)} (e : bm f (fun r M => bd (g r M) (fun M' => bd (h M') (fun M'' => some ((0 : Int32), M'')))) = some (0, N)) : bm f (fun r M => bd (g r M) (fun M' => bd (h M') K)) = K N := by
  cases f with
  | none => cases e
  | some rs =>
    obtain ⟨r, M⟩ := rs
    rw [bm_some] at e ⊢
    cases hg : g r M with
    | none => rw [hg] at e; cases e
    | some M' =>
      rw [hg, bd_some] at e
      rw [bd_some]
      cases hh : h M' with
      | none => rw [hh] at e; cases e
      | some M'' =>
        rw [hh, bd_some] at e
        rw [bd_some]
        cases e
        rfl
theorem wr_0 (hfu : 5000 ≤ fu) (h : INV M m t u) (ht : t < 2 ^ 26) (hu : u < 62) (hs : s < 6) : RES (bm (f_L_add fu 6 0 0 0 0 M) (fun r_86 M_87 => (if r_86 = (-7100) then bm (f_L_add fu (-1) 0 0 0 9999 M_87) (fun r_90 M_91 => (if r_90 = (-7100) then bm (f_L_add fu (nI s) 0 1000 0 0 M_91) (fun r_94 M_95 => (if r_94 = (-7200) then bm (f_L_add fu (nI s) 4999 0 0 0 M_95) (fun r_98 M_99 => (if r_98 = (-7200) then bm (f_L_add fu (nI s) 0 0 0 (-1000) M_99) (fun r_102 M_103 => (if r_102 = (-7200) then grd (inb (nI s) 6) ((if (M_103 143 (nI s).toNatClampNeg) = 10 then bm (f_L_count fu (nI s) M_103) (fun r_136 M_137 => (if r_136 = 10 then some ((1 : Int32), M_137) else some ((0 : Int32), M_137))) else bd (f_L_addable fu (nI s) a b x y M_103) (fun r_108 => (if r_108 = 0 then jn (fun (v_111 : Int32) => jn (fun (M_113 : Mem) => bm (f_L_kept fu (nI s) 1 b M_113) (fun r_115 M_116 => bd (f_L_lay fu 142 60 143 6 (nI s) (f_L_packed v_111 a r_115 x y) M_116) (fun M_119 => bd (f_L_written fu (nI s) M_119) (fun M_121 => bm (f_L_add fu (nI s) a b x y M_121) (fun r_123 M_124 => (if r_123 = v_111 then some ((1 : Int32), M_124) else some ((0 : Int32), M_124))))))) (fun k339_112 => (if 2 ≤ (nI s) then k339_112 M_103 else grd (inb (6 + (nI s)) 14) (nm (up M_103 153 (6 + (nI s)).toNatClampNeg ((M_103 153 (6 + (nI s)).toNatClampNeg) + 1)) (fun M_128 => k339_112 M_128))))) (fun k319_110 => (if (nI s) ≤ 1 then grd (inb (6 + (nI s)) 14) (k319_110 (M_103 153 (6 + (nI s)).toNatClampNeg)) else k319_110 a)) else bm (f_L_add fu (nI s) a b x y M_103) (fun r_132 M_133 => (if r_132 = r_108 then some ((1 : Int32), M_133) else some ((0 : Int32), M_133))))))) else some ((0 : Int32), M_103))) else some ((0 : Int32), M_99))) else some ((0 : Int32), M_95))) else some ((0 : Int32), M_91))) else some ((0 : Int32), M_87)))) t u := by
  have ht' : t < 2 ^ 29 := by omega
  have hu' : u < 2 ^ 29 := by omega
  have hnf := nf1 ⟨s, hs⟩
  have hbad : ∀ (a b c d : Int32), ¬ fit s a b c d → ∀ M' m', SM M' m' M m t u → ∃ M'' m'', f_L_add fu (nI s) a b c d M' = some (-7200, M'') ∧ SM M'' m'' M m t u := fun a b c d hn M' m' h' => by
    obtain ⟨RR, _, hW⟩ := (h'.inv h.1).wr
    exact add_e (k0 := 2) hfu h' ht' hu' (Or.inr (Or.inl rfl)) (xadd2 hs ((canAdd_eq hfu hW hs).1 hn) (by decide))
  refine ech (add_e (k0 := 1) hfu h.sm ht' hu' (Or.inl rfl) (xadd1 (by decide))) fun M2 m2 h2 => ?_
  refine ech (add_e (k0 := 1) hfu h2 ht' hu' (Or.inl rfl) (xadd1 (by decide))) fun M2 m2 h2 => ?_
  refine ech (hbad _ _ _ _ (fun z => z.2.1 hnf.1) _ _ h2) fun M2 m2 h2 => ?_
  refine ech (hbad _ _ _ _ (fun z => z.1 hnf.2.1) _ _ h2) fun M2 m2 h2 => ?_
  refine ech (hbad _ _ _ _ (fun z => z.2.2.2 hnf.2.2) _ _ h2) fun M3 m3 h3 => ?_
  have hI3 := h3.inv h.1
  obtain ⟨RR, hR, hW⟩ := hI3.wr
  obtain ⟨q1, q2, q3⟩ := hR s hs
  have h10 := q1.2.1
  obtain ⟨hA, h2', _⟩ := hI3.1.rest
  have e10 : (nI (RR s).length = 10) = ((RR s).length = 10) := by rw [show (10 : Int32) = nI 10 from rfl, nI_eq (by omega) (by omega)]
  rw [inb_nI (by omega) (by omega), grd_true, nI_clamp (by omega), q1.1]
  refine RES.if (fun hn => ?_) (fun hn => ?_) <;> rw [e10] at hn
  · obtain ⟨M4, m4, b1, b2⟩ := count_k (fu := fu) h3 ht' hu' hs
    rw [b1, bm_some, if_pos (by rw [q2.1, hn]; rfl)]
    exact .ok (b2.inv h.1)
  · have hle1 : (nI s ≤ 1) = (s < 2) := by
      rw [show (1 : Int32) = nI 1 from rfl, nI_leI (by omega) (by omega)]
      exact propext (by omega)
    have hle2 : ((2 : Int32) ≤ nI s) = ¬ (s < 2) := by
      rw [show (2 : Int32) = nI 2 from rfl, nI_leI (by omega) (by omega)]
      exact propext (by omega)
    have hf : M3 153 (6 + s) = m3 4 s ∨ ¬ s < 2 := by
      by_cases z : s < 2
      · exact Or.inl (hA s z)
      · exact Or.inr z
    obtain ⟨l1, l2, l3⟩ := laddable (a := a) (b := b) (c := x) (d := y) (n := m3) hfu q1 hs q3 hf
    obtain ⟨c1, c2, c3⟩ := canAdd_eq (a := a) (b := b) (c := x) (d := y) hfu hW hs
    by_cases z1 : fit s a b x y
    · by_cases z2 : rm m3 RR s a
      · rw [l3 z1 z2, bd_some, if_pos rfl]
        have m0R : ∀ s, s < 6 → RM (up m3 0 0 0) s (RR s) := fun s' hs' => (hR s' hs').2.1.cg (by rw [up_n (by omega)]) (up_n (by omega)) (up_n (by omega))
        have hmk : okm (if s < 2 then m3 4 s else a) := by
          by_cases z : s < 2
          · rw [if_pos z]
            obtain ⟨_, _, _, ⟨q, w1, w2, _⟩, _⟩ := hW.2.2.1 s hs
            refine ⟨q, by omega, w2⟩
          · rw [if_neg z]; exact key_ok hs z z1.1
        have ead := adds_eq (c := x) (d := y) (a := a) (b := b) (m := up m3 0 0 0) (mk := if s < 2 then m3 4 s else a) hfu hs (m0R s hs) z2.1 (fit_ok (c := 1) hs (by omega) z1.2.1).1 (by rw [up_n (by omega)])
        have hL0 : LR M3 (up m3 0 0 0) t u := hI3.1.cg (fun _ _ _ => rfl) .up0 hI3.1.e3c
        have hR0 : RLL M3 (up m3 0 0 0) RR := hR.cg rfl rfl (up_n (by omega)) (up_n (by omega)) (up_n (by omega))
        -- with what is counted
        have fin : ∀ P n1, LR P n1 t u → RLL P n1 RR → (∀ a, a < 142 → P a = M3 a) → n1 = (if s < 2 then up (up m3 0 0 0) 4 s ((up m3 0 0 0) 4 s + 1) else up m3 0 0 0) → RES (bm (f_L_kept fu (nI s) 1 b P) (fun r_115 M_116 => bd (f_L_lay fu 142 60 143 6 (nI s) (f_L_packed (if s < 2 then m3 4 s else a) a r_115 x y) M_116) (fun M_119 => bd (f_L_written fu (nI s) M_119) (fun M_121 => bm (f_L_add fu (nI s) a b x y M_121) (fun r_123 M_124 => (if r_123 = (if s < 2 then m3 4 s else a) then some ((1 : Int32), M_124) else some ((0 : Int32), M_124))))))) t u := by
          intro P n1 hP1 hP2 hP3 hn1
          obtain ⟨N, n', g1, g2, g3, g4, g5⟩ := wr_add hfu hP1 hP2 hs (by omega) hmk z1 ht hu
          rw [bmbd g1]
          have h6 : n1 0 6 = (up m3 0 0 0) 0 6 := by
            rw [hn1]; split
            · rw [up_n (by omega)]
            · rfl
          have h00 : n1 0 0 = 0 := by
            rw [hn1]; split
            · rw [up_n (by omega), up_s]
            · rw [up_s]
          rw [h6, hn1] at g2
          rw [g2, bd_some] at ead
          obtain ⟨M6, a1, a2, a3⟩ := rCall (k0 := 0) (cs := [1, 2, 3]) g3 (add_call (p1 := nI s) (p2 := a) (p3 := b) (p4 := x) (p5 := y) hfu (hI3.2.cgC (N := N) (fun a ha => by rw [g4 a ha, hP3 a ha])) ht' hu') (xadd0 hs (c2 z1 z2) ead) (by rw [g5, h00]; rfl) (by decide) (by decide) (by decide) ht' (by omega) hu'
          exact fin1 ⟨M6, _, a1, a2⟩ (by rw [if_pos rfl]) (by omega) (by omega) (by omega) (by omega)
        by_cases z : s < 2
        · have hc1 : nI s ≤ 1 := by rw [hle1]; exact z
          have hc2 : ¬ (2 : Int32) ≤ nI s := by rw [hle2]; exact fun w => w z
          have e6 : (6 : Int32) + nI s = nI (6 + s) := nI_add 6 s
          obtain ⟨hL1, hR1⟩ := hL0.cnt hR0 z
          have g := fin _ _ hL1 hR1 (fun a ha => up_n (by omega)) (by rw [if_pos z])
          simp (disch := omega) only [jn_d, hc1, hc2, if_true, if_false, e6, inb_nI, grd_true, nI_clamp, nm_d, hA s z]
          simp only [z, if_true, hA s z] at g
          exact g
        · have hc1 : ¬ nI s ≤ 1 := by rw [hle1]; exact z
          have hc2 : (2 : Int32) ≤ nI s := by rw [hle2]; exact z
          have g := fin _ _ hL0 hR0 (fun a ha => rfl) (by rw [if_neg z])
          simp (disch := omega) only [jn_d, hc1, hc2, if_true, if_false]
          simp only [z, if_false] at g
          exact g
      · rw [l2 z1 z2, bd_some, if_neg (by decide)]
        exact ech (add_e (k0 := 3) hfu h3 ht' hu' (Or.inr (Or.inr rfl)) (xadd2 hs (c3 z1 z2) (by decide))) fun M4 m4 h4 => .ok (h4.inv h.1)
    · rw [l1 z1, bd_some, if_neg (by decide)]
      exact ech (hbad _ _ _ _ z1 _ _ h3) fun M4 m4 h4 => .ok (h4.inv h.1)
end WriL
