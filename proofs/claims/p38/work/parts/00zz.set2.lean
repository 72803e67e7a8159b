/-! ===== bounds, leases, failures, what is forbidden; time passes ===== -/
section Set2
variable {fu nS nL nC nO i j s t u e p c : Nat} {M m N n : Mem} {RR : Nat → List Row} {v x p1 p2 p3 p4 p5 p6 : Int32} {km : Nat → Nat} {f : Option XR} {g : Option (Int32 × Mem)}
theorem le10 : ((1 : Int32) ≤ 0) = False := by decide
theorem le20 : ((2 : Int32) ≤ 0) = False := by decide
theorem le30 : ((3 : Int32) ≤ 0) = False := by decide
theorem l30 : (30 : Int32) = nI 30 := rfl
theorem l60 : (60 : Int32) = nI 60 := rfl
theorem l12 : (12 : Int32) = nI 12 := rfl
theorem l20 : (20 : Int32) = nI 20 := rfl
theorem l200 : (200 : Int32) = nI 200 := rfl
theorem l100 : (100 : Int32) = nI 100 := rfl
theorem setBounds_call (h : REL M m t u) : OUT kmB t u (f_X10_setBounds fu p1 p2 p3 M) (f_X11_setBounds fu p1 p2 p3 m) := by
  rcases idx 3 (by omega) p1 with h1 | ⟨j, hj, rfl⟩
  · refine OUT.same (k := 1) (v := 0) (p1 := 0) h (by omega) ?_ ?_ (fun hk => by omega)
    · simp only [f_X10_setBounds, needI3, h1, if_true, bx_1, xer]
    · simp only [f_X11_setBounds, nm_d, isStore0, h1, if_true, up_s, le10, if_false]
      rfl
  have g1 := good (b := 3) (by omega) hj
  by_cases h2 : p2 < 1 ∨ nI 20 < p2
  · refine OUT.same (k := 2) (v := 0) (p1 := 0) h (by omega) ?_ ?_ (fun hk => by omega)
    · simp only [f_X10_setBounds, needI3, g1, if_false, bx_0, nm_d, isIn0, l20, h2, if_true, f_X10_needArgument, bx_2, xer]
    · simp only [f_X11_setBounds, nm_d, isStore0, g1, if_false, in0, l20, h2, if_true, up_s, le20]
      rfl
  rcases rng 12 (by omega) p3 with h3 | ⟨b, hb, rfl⟩
  · refine OUT.same (k := 2) (v := 0) (p1 := 0) h (by omega) ?_ ?_ (fun hk => by omega)
    · simp only [f_X10_setBounds, needI3, g1, h2, if_false, bx_0, nm_d, isIn0, l20, l12, h3, if_true, f_X10_needArgument, bx_2, xer]
    · simp only [f_X11_setBounds, nm_d, isStore0, g1, h2, if_false, in0, l20, l12, h3, if_true, up_s, le20]
      rfl
  have g3 := goodr (b := 12) (by omega) hb
  obtain ⟨_, _, _, _, _, w1, _, _, _, w5, _⟩ := id h
  obtain ⟨b1, b2, b3, b4, b5, b6, b7, b8, b9⟩ := id w1.1.2.1
  obtain ⟨c1, c2, c3, c4, c5⟩ := id w1.1.2.2.1
  refine ⟨0, M 50 j, up (up M 50 j p2) 51 j (nI b), m 8 j, up (up (up m 0 0 0) 8 j p2) 9 j (nI b), t, u, ?_, ?_, ?_, fun _ => by rw [b3], by decide, Nat.le_refl _, by omega, Nat.le_refl _, by omega, h.of (w1.1.set ?_ ?_ ?_ ?_ ⟨?_, ?_, ?_, ?_, ?_, ?_, ?_, ?_, ?_⟩ ⟨?_, ?_, ?_, ?_, ?_⟩ ?_) ?_ ?_ ?_ (w5.cg ?_ ?_)⟩
  · simp (disch := omega) only [f_X10_setBounds, needI3, g1, h2, g3, if_false, bx_0, nm_d, isIn0, l20, l12, f_X10_needArgument, i10, inb_nI, grd_true, nI_clamp]
  · simp (disch := omega) only [f_X11_setBounds, nm_d, isStore0, g1, h2, g3, if_false, in0, l20, l12, up_s, Int32.le_refl, if_true, inb_nI, grd_true, nI_clamp, up_n]
  all_goals (try simp (disch := omega) only [up_n, up_m, up_s, up_a, b1, b2, b3, b4, b5, b6, b7, b8, b9])
  all_goals (try assumption)
  · rfl
  · intro a h1 h2 h3 h4; rw [up_n (by omega), up_n (by omega)]
  · exact inr_upd c3 hb
  · intro a h1 h2; rw [up_n (by omega), up_n (by omega), up_n (by omega)]
  · intro a h1; rw [up_n (by omega), up_n (by omega)]
  · intro a h1; rw [up_n (by omega), up_n (by omega), up_n (by omega)]
  · intro j h1 h2 h3 h4; simp [upd, h1]
theorem fail_call (h : REL M m t u) (hb : isb p3 = true) : OUT kmB t u (f_X10_fail fu p1 p2 p3 M) (f_X11_fail fu p1 p2 p3 m) := by
  rcases idx 3 (by omega) p1 with h1 | ⟨j, hj, rfl⟩
  · refine OUT.same (k := 1) (v := 0) (p1 := 0) h (by omega) ?_ ?_ (fun hk => by omega)
    · simp only [f_X10_fail, needI3, h1, if_true, bx_1, xer]
    · simp only [f_X11_fail, nm_d, isStore0, h1, if_true, up_s, le10, if_false]
      rfl
  have g1 := good (b := 3) (by omega) hj
  by_cases h2 : p2 < 0 ∨ nI 20 < p2
  · have h2' : f_X10_isIn p2 0 20 = 0 := isIn0.mpr h2
    refine OUT.same (k := 2) (v := 0) (p1 := 0) h (by omega) ?_ ?_ (fun hk => by omega)
    · simp only [f_X10_fail, needI3, g1, if_false, bx_0, nm_d, h2', if_true, f_X10_needArgument, bx_2, xer]
    · simp only [f_X11_fail, nm_d, isStore0, g1, if_false, in0, l20, h2, if_true, up_s, le20]
      rfl
  have h2' : ¬ f_X10_isIn p2 0 20 = 0 := fun z => h2 (isIn0.mp z)
  obtain ⟨_, _, _, _, _, w1, _, _, _, w5, _⟩ := id h
  obtain ⟨b1, b2, b3, b4, b5, b6, b7, b8, b9⟩ := id w1.1.2.1
  obtain ⟨c1, c2, c3, c4, c5⟩ := id w1.1.2.2.1
  refine ⟨0, M 52 j, up (up M 52 j p2) 53 j p3, m 11 j, up (up (up m 0 0 0) 11 j p2) 12 j p3, t, u, ?_, ?_, ?_, fun _ => by rw [b6], by decide, Nat.le_refl _, by omega, Nat.le_refl _, by omega, h.of (w1.1.set ?_ ?_ ?_ ?_ ⟨?_, ?_, ?_, ?_, ?_, ?_, ?_, ?_, ?_⟩ ⟨?_, ?_, ?_, ?_, ?_⟩ ?_) ?_ ?_ ?_ (w5.cg ?_ ?_)⟩
  · simp (disch := omega) only [f_X10_fail, needI3, g1, h2', if_false, bx_0, nm_d, f_X10_needArgument, inb_nI, grd_true, nI_clamp, hb]
  · simp (disch := omega) only [f_X11_fail, nm_d, isStore0, g1, h2, if_false, in0, l20, up_s, Int32.le_refl, if_true, inb_nI, grd_true, nI_clamp, up_n, hb]
  all_goals (try simp (disch := omega) only [up_n, up_m, up_s, up_a, b1, b2, b3, b4, b5, b6, b7, b8, b9])
  all_goals (try assumption)
  · rfl
  · intro a h1 h2 h3 h4; rw [up_n (by omega), up_n (by omega)]
  · intro a h1 h2; rw [up_n (by omega), up_n (by omega), up_n (by omega)]
  · intro a h1; rw [up_n (by omega), up_n (by omega)]
  · intro a h1; rw [up_n (by omega), up_n (by omega), up_n (by omega)]
  · intro j h1 h2 h3 h4; simp [upd, h1]
theorem pass_call (hfu : 5000 ≤ fu) (h : REL M m t u) (ht : t < 2 ^ 29) : OUT kmP t u (f_X10_pass fu p1 M) (f_X11_pass fu p1 m) := by
  by_cases h2 : p1 < 1 ∨ nI 100 < p1
  · have h2' : f_X10_isIn p1 1 100 = 0 := isIn0.mpr h2
    refine OUT.same (k := 2) (v := 0) (p1 := 0) h (by omega) ?_ ?_ (fun hk => by omega)
    · simp only [f_X10_pass, h2', if_true, f_X10_needArgument, bx_2, xer]
    · simp only [f_X11_pass, nm_d, in0, l100, h2, if_true, up_s, le10, if_false]
      rfl
  have h2' : ¬ f_X10_isIn p1 1 100 = 0 := fun z => h2 (isIn0.mp z)
  obtain ⟨d, hd, rfl⟩ : ∃ d, d ≤ 100 ∧ p1 = nI d := by
    refine inR (fun z => h2 (Or.inl ?_)) (fun z => h2 (Or.inr z)) (by omega)
    rw [i_lt] at z ⊢
    rw [show (1 : Int32).toInt = 1 from by decide]
    rw [show (0 : Int32).toInt = 0 from by decide] at z
    omega
  obtain ⟨RR, nS, nL, nC, nO, w1, _, _, _, w5, _⟩ := h.up0 0
  obtain ⟨N, n, e1, e2, e3, e4, e5⟩ := goOn2 (fu := fu) (d := d) hfu w1.1 (by omega)
  have et : M 1 0 + nI d = nI (t + d) := by rw [w1.1.1.1, nI_add]
  refine ⟨0, N 1 0, N, n 0 8, n, t + d, u, ?_, ?_, ?_, fun _ => by rw [e3.1.1, e3.1.2.1], by decide, by omega, by omega, Nat.le_refl _, by omega, (h.up0 0).of e3 (fun a ha => e4 a (by omega) (by omega) (by omega)) (fun a ha => e5.1 a (by omega) (by omega)) (fun j z1 z2 z3 z4 => e5.2 j z3 z4) (w5.cg (e4 54 (by omega) (by omega) (by omega)) (e5.1 17 (by omega) (by omega)))⟩
  · simp only [f_X10_pass, h2', if_false, f_X10_needArgument, bx_0, et, e1, bd_some]
  · simp only [f_X11_pass, nm_d, in0, l100, h2, if_false, up_s, Int32.le_refl, if_true, e2, bd_some]
  · rw [e5.2 0 (by omega) (by omega), up_s]; rfl
theorem setLease_call (hfu : 5000 ≤ fu) (h : REL M m t u) (ht : t < 2 ^ 29) : OUT kmB t u (f_X10_setLease fu p1 p2 M) (f_X11_setLease fu p1 p2 m) := by
  rcases idx 3 (by omega) p1 with h1 | ⟨j, hj, rfl⟩
  · refine OUT.same (k := 1) (v := 0) (p1 := 0) h (by omega) ?_ ?_ (fun hk => by omega)
    · simp only [f_X10_setLease, needI3, h1, if_true, bx_1, xer]
    · simp only [f_X11_setLease, nm_d, isStore0, h1, if_true, up_s, le10, if_false]
      rfl
  have g1 := good (b := 3) (by omega) hj
  by_cases h2 : p2 < 0 ∨ nI 200 < p2
  · have h2' : f_X10_isIn p2 0 200 = 0 := isIn0.mpr h2
    refine OUT.same (k := 2) (v := 0) (p1 := 0) h (by omega) ?_ ?_ (fun hk => by omega)
    · simp only [f_X10_setLease, needI3, g1, if_false, bx_0, nm_d, h2', if_true, f_X10_needArgument, bx_2, xer]
    · simp only [f_X11_setLease, nm_d, isStore0, g1, if_false, in0, l200, h2, if_true, up_s, le20]
      rfl
  have h2' : ¬ f_X10_isIn p2 0 200 = 0 := fun z => h2 (isIn0.mp z)
  obtain ⟨_, _, _, _, _, w1, _, _, _, w5, _⟩ := id h
  obtain ⟨⟨a1, a2, a3, a4⟩, ⟨b1, b2, b3, b4, b5, b6, b7, b8, b9⟩, ⟨c1, c2, c3, c4, c5⟩, L, d1, d2, d3⟩ := id w1.1
  have hc : EC (up M 5 j p2) L := d1.cg (fun i _ _ _ _ => by rw [up_n (by omega)])
  have hm : EM (up (up m 0 0 0) 10 j p2) L := d2.cg (by rw [up_n (by omega), up_m (by omega)]) (fun i _ _ => by rw [up_n (by omega), up_n (by omega)])
  obtain ⟨N, e1, hN1, hN2⟩ := sweep_ok (M := up M 5 j p2) (now := nI t) (ls := upd (M 5) j p2) hfu (i_max (by omega)) (by rw [up_n (by omega)]; exact a1) (fun j _ => by rw [up_a]) hc
  obtain ⟨n, e2, hn1, hn2, hn3⟩ := drops_ok (M := up (up m 0 0 0) 10 j p2) (now := nI t) (ls := upd (m 10) j p2) hfu (by rw [up_n (by omega), up_m (by omega)]; exact a2) (fun j _ => by rw [up_a, up_n (by omega)]) (d3.drop1 (by omega)) hm
  rw [b5] at hN1
  refine ⟨0, M 5 j, N, m 10 j, n, t, u, ?_, ?_, ?_, fun _ => by rw [b5], by decide, Nat.le_refl _, by omega, Nat.le_refl _, by omega, h.of ⟨⟨?_, ?_, ?_, ?_⟩, ⟨?_, ?_, ?_, ?_, ?_, ?_, ?_, ?_, ?_⟩, ⟨?_, ?_, ?_, ?_, ?_⟩, L.filter (fun E => !gone (nI t) (upd (m 10) j p2) E), hN1, hn1, d3.filter⟩ ?_ ?_ ?_ (w5.cg ?_ ?_)⟩
  · simp (disch := omega) only [f_X10_setLease, needI3, g1, h2', if_false, bx_0, nm_d, f_X10_needArgument, inb_nI, grd_true, nI_clamp, e1, bd_some]
  · simp (disch := omega) only [f_X11_setLease, nm_d, isStore0, g1, h2, if_false, in0, l200, up_s, Int32.le_refl, if_true, inb_nI, grd_true, nI_clamp, up_n, e2, bd_some]
  · rw [hn3 0 (by omega), up_n (by omega), up_s]; rfl
  · rw [hN2 1 (by omega) (by omega), up_n (by omega)]; exact a1
  · rw [hn3 8 (by omega), up_n (by omega), up_m (by omega)]; exact a2
  · rw [hN2 1 (by omega) (by omega), up_n (by omega)]; exact a3
  · rw [hn3 7 (by omega), up_n (by omega), up_m (by omega)]; exact a4
  all_goals (try simp (disch := omega) only [hN2, hn2, up_n, up_a, b5])
  all_goals (try assumption)
  · intro a h1; rw [hN2 a (by omega) (by omega), up_n (by omega)]
  · intro a h1; rw [hn2 a (by omega) (by omega), up_n (by omega), up_n (by omega)]
  · intro j h1 h2 h3 h4; rw [hn3 j (by omega), up_n (by omega), up_m h1]
end Set2
