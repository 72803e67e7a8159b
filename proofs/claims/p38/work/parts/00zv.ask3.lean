/-! ===== a query is asked, whole ===== -/
def mst (m : Mem) (p1 p2 : Int32) : Mem := up (up (up (up (up (up (up (up m 0 52 (m 0 8)) 0 53 p1) 0 54 p2) 0 78 0) 0 80 0) 0 81 0) 0 82 0) 0 83 0
section Ask3
variable {fu nS nL nC nO i j s t u e p c fr t0 dl c0 sc o : Nat} {M m N n : Mem} {RR : Nat → List Row} {v : Int32}
theorem mst_n {p1 p2 : Int32} {a : Nat} (h : a ≠ 0) : mst m p1 p2 a = m a := by simp (disch := omega) only [mst, up_n]
theorem mst_0 {p1 p2 : Int32} : mst m p1 p2 0 52 = m 0 8 ∧ mst m p1 p2 0 53 = p1 ∧ mst m p1 p2 0 54 = p2 ∧ mst m p1 p2 0 78 = 0 ∧ mst m p1 p2 0 80 = 0 ∧ mst m p1 p2 0 81 = 0 ∧ mst m p1 p2 0 82 = 0 ∧ mst m p1 p2 0 83 = 0 ∧ ∀ j, j ≠ 52 → j ≠ 53 → j ≠ 54 → j ≠ 78 → j ≠ 80 → j ≠ 81 → j ≠ 82 → j ≠ 83 → mst m p1 p2 0 j = m 0 j := by
  refine ⟨?_, ?_, ?_, ?_, ?_, ?_, ?_, ?_, fun j h1 h2 h3 h4 h5 h6 h7 h8 => ?_⟩ <;> simp (disch := omega) only [mst, up_m, up_s]
theorem DG.dr (h : DG m nS nL nC nO) : (0 < nS ∧ 0 < nO) ↔ (¬ m 0 22 ≤ 0 ∧ ¬ m 0 34 ≤ 0) := by
  have a := h.1
  have b := h.2.2.2.1
  rw [a.1, b.1, lit, nI_leI (by omega) (by omega), nI_leI (by omega) (by omega)]
  omega
theorem ask3 (hfu : 5000 ≤ fu) (hW : WR M m t u RR) (hD : DR M m) (hG : DG m nS nL nC nO) (hZ : ZR M m) (hF : FR M m) (hK : M 121 = m 48) (hB : BB M m) (h00 : m 0 0 = 0) (hS0 : 0 < nS) (hO : 0 < nO) (hfr : fr ≤ 200) (hdl : dl ≤ 200) (ht : t < 2 ^ 28) (hu : u < 2 ^ 28) : ∃ N n t' v, bd (f_X1_begin fu (nI fr) ((M 1 0) + nI dl) (M 1 1) M) (fun M_13 => jn (fun (M_15 : Mem) => bd (f_X1_end fu M_15) (fun M_17 => some ((0 : Nat), (M_17 90 5), M_17))) (fun k97_14 => f_X10_ask_L66 fu k97_14 fu 0 M_13)) = some (0, v, N) ∧ f_X11_ask_L96 fu (fun (M_14 : Mem) => f_X11_ask_L114 fu (fun (M_16 : Mem) => bd (f_X11_makes fu 1 M_16) (fun M_18 => nm (up M_18 0 75 (M_18 0 68)) (fun M_19 => nm (up M_19 0 76 (M_19 0 69)) (fun M_20 => f_X11_ask_L159 fu (fun (M_22 : Mem) => bd (f_X11_claimed fu M_22) (fun r_24 => nm (up M_22 0 79 r_24) (fun M_25 => some ((M_25 0 75), M_25)))) fu (nI 0) M_20)))) fu M_14) fu (nI 0) (mst m (nI fr) (nI dl)) = some (v, n) ∧ t ≤ t' ∧ t' ≤ t + 1440 ∧ REL N n t' u ∧ n 0 0 = 0 := by
  have hS3 := hG.1.2
  obtain ⟨⟨tr1, tr2, tr3, tr4⟩, _⟩ := (id hW.1)
  obtain ⟨M1, b1, b2, b3, b4, b5, b6, b7, b8, b9, b10, b11, b12⟩ := begin_eq (fu := fu) (M := M) (p1 := nI fr) (p2 := M 1 0 + nI dl) (p3 := M 1 1) hfu
  obtain ⟨c1, c2, c3, c4, c5, c6, c7, c8, c9⟩ := mst_0 (m := m) (p1 := nI fr) (p2 := nI dl)
  have cn := fun a ha => mst_n (m := m) (p1 := nI fr) (p2 := nI dl) (a := a) ha
  generalize hm0 : mst m (nI fr) (nI dl) = m0 at *
  obtain ⟨m1, d1, d2, d3⟩ := ask96 (fu := fu) (k := fun (M_14 : Mem) => f_X11_ask_L114 fu (fun (M_16 : Mem) => bd (f_X11_makes fu 1 M_16) (fun M_18 => nm (up M_18 0 75 (M_18 0 68)) (fun M_19 => nm (up M_19 0 76 (M_19 0 69)) (fun M_20 => f_X11_ask_L159 fu (fun (M_22 : Mem) => bd (f_X11_claimed fu M_22) (fun r_24 => nm (up M_22 0 79 r_24) (fun M_25 => some ((M_25 0 75), M_25)))) fu (nI 0) M_20)))) fu M_14) 3 0 fu m0 (by omega) (by omega) (fun j hj => by omega)
  have f10 : m1 0 = m0 0 := d3 0 (by omega)
  have f1 : ∀ a, a ≠ 0 → a ≠ 42 → m1 a = m a := fun a z1 z2 => by rw [d3 a z2, cn a z1]
  have hDS : DS (up m1 0 55 0) m := ⟨fun a z1 z2 => by rw [up_n (by omega), f1 a (by omega) (by omega)], fun j z1 z2 => by rw [up_m (by omega), f10, c9 j (by omega) (by omega) (by omega) (by omega) (by omega) (by omega) (by omega) (by omega)]⟩
  have hDS1 : DS m1 m := ⟨fun a z1 z2 => f1 a (by omega) (by omega), fun j z1 z2 => by rw [f10, c9 j (by omega) (by omega) (by omega) (by omega) (by omega) (by omega) (by omega) (by omega)]⟩
  have hSA : SA M1 m1 t u nS nL nC nO RR t dl fr 0 0 (fun _ => false) 0 0 (fun _ => 0) (fun _ => 0) := by
    refine ⟨⟨0, hW.of (hW.1.cg (fun a z1 z2 z3 => b3 a (by omega) (by omega) (by omega) (by omega) (by omega)) ?_ ?_ ?_ (fun a z1 z2 => by rw [up_n (by omega), f1 a (by omega) (by omega)]) (fun a z1 z2 => by rw [up_n (by omega), f1 a (by omega) (by omega)])) (fun a z1 z2 z3 => b3 a (by omega) (by omega) (by omega) (by omega) (by omega)) (fun a z1 z2 => by rw [up_n (by omega), f1 a (by omega) (by omega)]) ?_, hD.cg (fun a z1 z2 => b3 a (by omega) (by omega) (by omega) (by omega) (by omega)) hDS, hG.cg hDS, hZ.cg (b3 59 (by omega) (by omega) (by omega) (by omega) (by omega)) (by rw [up_n (by omega), f1 18 (by omega) (by omega)]), hF.cg (b3 54 (by omega) (by omega) (by omega) (by omega) (by omega)) (by rw [up_n (by omega), f1 17 (by omega) (by omega)]), by rw [b3 121 (by omega) (by omega) (by omega) (by omega) (by omega), up_n (by omega), f1 48 (by omega) (by omega)]; exact hK, ⟨?_, ?_, ?_, b9, ?_, up_s, ?_, ?_⟩, Nat.le_refl _⟩, b8, ⟨b6, ?_⟩, ⟨⟨b12, ?_, by omega⟩, fun j hj => d2 j hj, fun j hj => rfl⟩, rfl, (fun j hj => by cases hj), ⟨b4, ?_⟩, ⟨?_, (by omega), (fun j _ _ => by simp)⟩, fun j hj _ _ => b2 j hj, (fun j _ _ hj => by cases hj), (fun x hx => by omega), (fun j _ hj => by cases hj), hB.cg ⟨fun a z1 z2 => b3 a (by omega) (by omega) (by omega) (by omega) (by omega), fun a z1 z2 => f1 a (by omega) (by omega), by rw [f10, c9 85 (by omega) (by omega) (by omega) (by omega) (by omega) (by omega) (by omega) (by omega)]⟩, by rw [f10, c9 0 (by omega) (by omega) (by omega) (by omega) (by omega) (by omega) (by omega) (by omega)]; exact h00⟩
    · rw [up_m (by omega), f10, c9 7 (by omega) (by omega) (by omega) (by omega) (by omega) (by omega) (by omega) (by omega)]
    · rw [up_m (by omega), f10, c9 8 (by omega) (by omega) (by omega) (by omega) (by omega) (by omega) (by omega) (by omega)]
    · rw [up_m (by omega), f10, c9 39 (by omega) (by omega) (by omega) (by omega) (by omega) (by omega) (by omega) (by omega)]
    · rw [up_m (by omega), f10, c9 6 (by omega) (by omega) (by omega) (by omega) (by omega) (by omega) (by omega) (by omega)]
    · rw [b5, tr1, nI_add]
    · rw [up_m (by omega), f10, c1, tr2]
    · rw [up_m (by omega), f10, c3]
    · rw [up_m (by omega), f10, c5]; rfl
    · rw [b10, up_m (by omega), f10, c6]
    · rw [b11, up_m (by omega), f10, c7]
    · rw [b7, tr3]
      simp [mn3]
    · rw [f10, c8]; rfl
    · rw [f10, c2]
    · rw [f10, c4]; rfl
  have ht2 : t + 480 * nS < 2 ^ 29 := by omega
  have hc2 : 0 + 0 + 200 * nS < 2 ^ 29 := by omega
  obtain ⟨N2, n2, t', c', sc', tk', o', sn', un', g1, g2, g3, g4, g5, g6⟩ := askLoop (fu := fu) (kc := fun (M_15 : Mem) => bd (f_X1_end fu M_15) (fun M_17 => some ((0 : Nat), (M_17 90 5), M_17))) (km := fun (M_16 : Mem) => bd (f_X11_makes fu 1 M_16) (fun M_18 => nm (up M_18 0 75 (M_18 0 68)) (fun M_19 => nm (up M_19 0 76 (M_19 0 69)) (fun M_20 => f_X11_ask_L159 fu (fun (M_22 : Mem) => bd (f_X11_claimed fu M_22) (fun r_24 => nm (up M_22 0 79 r_24) (fun M_25 => some ((M_25 0 75), M_25)))) fu (nI 0) M_20)))) hfu (by omega) (by omega) nS 0 fu fu t 0 0 (fun _ => false) 0 (fun _ => 0) (fun _ => 0) M1 m1 (by omega) (by omega) (by omega) hSA ht2 hc2
  obtain ⟨N, n, v, y1, y2, y3, y4, y5⟩ := askEnd (fu := fu) hfu g5 hS0 hO (by omega)
  refine ⟨N, n, t', v, ?_, ?_, g3, by omega, y4, y5⟩
  · rw [b1, bd_some, jn_d]
    refine g1.trans ?_
    rw [y1, bd_some, y2]
  · rw [d1]
    exact g2.trans y3
end Ask3
