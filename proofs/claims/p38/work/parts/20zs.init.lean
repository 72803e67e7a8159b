/-! ===== the law's start: all three ===== -/
def L0 : Mem := fun a i => if a < 142 then C0 a i else 0
def L1 : Mem := up (up (up (up (up (up (up (up (up (up (up (up (up (up (up (up (up (up (up (up L0 145 (0 : Int32).toNatClampNeg 1) 145 ((6 + 0) : Int32).toNatClampNeg 20) 145 ((9 + 0) : Int32).toNatClampNeg 12) 145 ((12 + 0) : Int32).toNatClampNeg 60) 145 (1 : Int32).toNatClampNeg 1) 145 ((6 + 1) : Int32).toNatClampNeg 20) 145 ((9 + 1) : Int32).toNatClampNeg 12) 145 ((12 + 1) : Int32).toNatClampNeg 60) 145 (2 : Int32).toNatClampNeg 1) 145 ((6 + 2) : Int32).toNatClampNeg 20) 145 ((9 + 2) : Int32).toNatClampNeg 12) 145 ((12 + 2) : Int32).toNatClampNeg 60) 153 (0 : Int32).toNatClampNeg 10) 153 (1 : Int32).toNatClampNeg 10) 153 (2 : Int32).toNatClampNeg 10) 153 (3 : Int32).toNatClampNeg 10) 153 (4 : Int32).toNatClampNeg 10) 153 (5 : Int32).toNatClampNeg 10) 146 (4 : Int32).toNatClampNeg 20) 152 (12 : Int32).toNatClampNeg (-1)
def R1 : Mem := up (up (up R0 0 0 0) 0 37 (nI 20)) 0 38 0
section InitL
theorem L0c {a : Nat} (h : a < 142) : L0 a = C0 a := by funext i; simp only [L0, h, if_true]
theorem L0z {a : Nat} (h : 142 ≤ a) : L0 a = fun _ => 0 := by funext i; simp only [L0, show ¬ a < 142 by omega, if_false]
theorem L1n {a : Nat} (h : a ≠ 145 ∧ a ≠ 153 ∧ a ≠ 146 ∧ a ≠ 152) : L1 a = L0 a := by
  obtain ⟨h1, h2, h3, h4⟩ := h
  simp (disch := omega) only [L1, up_n]
theorem R1n {a : Nat} (h : a ≠ 0) : R1 a = R0 a := by simp (disch := omega) only [R1, up_n]
theorem R10 {j : Nat} (h : j ≠ 0 ∧ j ≠ 37 ∧ j ≠ 38) : R1 0 j = R0 0 j := by
  obtain ⟨h1, h2, h3⟩ := h
  simp (disch := omega) only [R1, up_m]
theorem i145 : ∀ j : Fin 3, (L1 145 j.val = 1 ∧ L1 145 (3 + j.val) = 0 ∧ L1 145 (6 + j.val) = 20 ∧ L1 145 (9 + j.val) = 12 ∧ L1 145 (12 + j.val) = 60) ∧ L1 145 (15 + j.val) = 0 ∧ L1 145 (18 + j.val) = 0 ∧ L1 145 (21 + j.val) = 0 ∧ L1 145 (24 + j.val) = 0 := by decide +kernel
theorem i153 : ∀ j : Fin 6, L1 153 j.val = 10 ∧ L1 153 (6 + j.val) = 0 ∧ L1 153 (8 + j.val) = 0 := by decide +kernel
theorem i146 : L1 146 0 = nI 0 ∧ L1 146 1 = nI 0 ∧ L1 146 2 = nI 0 ∧ L1 146 3 = nI 0 ∧ L1 146 4 = nI 20 ∧ L1 146 5 = 0 := by decide +kernel
theorem i152 : L1 152 0 = nI 0 ∧ L1 152 1 = nI 0 ∧ L1 152 2 = 0 ∧ L1 152 3 = nI 0 ∧ L1 152 7 = 0 ∧ L1 152 8 = 0 ∧ L1 152 9 = 0 ∧ L1 152 11 = 0 ∧ L1 152 12 = -1 ∧ L1 152 13 = 0 ∧ L1 152 15 = nI 0 ∧ L1 152 16 = nI 0 := by decide +kernel
theorem rel_L1 : REL L1 R0 0 0 := start_rel.cgC (fun a ha => by rw [L1n (by omega), L0c ha])
theorem init_LR (h3 : e3 L1 = true) : LR L1 R1 0 0 := by
  obtain ⟨d0, d1, d2, d3, d4, d5⟩ := i146
  obtain ⟨a0, a1, a2, a3, a7, a8, a9, a11, a12, a13, a15, a16⟩ := i152
  have r0 : ∀ j, j ≠ 0 → j ≠ 37 → j ≠ 38 → j ≠ 79 → R1 0 j = 0 := fun j h1 h2 h3 h4 => by rw [R10 ⟨h1, h2, h3⟩, R00 ⟨h2, h4⟩]
  have r37 : R1 0 37 = nI 20 := by simp (disch := omega) only [R1, up_m, up_s]
  have r38 : R1 0 38 = 0 := by simp (disch := omega) only [R1, up_s]
  have r79 : R1 0 79 = -1 := by rw [R10 (by omega)]; rfl
  have hRV : ∀ f g, RV f g [] := fun f g i r h => by simp at h
  refine ⟨fun _ => [], 0, 0, 0, 0, ⟨⟨⟨a1, r0 8 (by omega) (by omega) (by omega) (by omega), r0 7 (by omega) (by omega) (by omega) (by omega)⟩, [], fun _ => 0, fun _ => 0, ⟨r0 39 (by omega) (by omega) (by omega) (by omega), by simp, fun j E h => by simp at h⟩, (fun E h => by cases h), ⟨a3, by simp, fun k E h => by simp at h⟩, ⟨a0, by omega, fun i h1 h2 => by omega⟩, fun s hs => by rw [R1n (by omega), R0z (by omega)]; rfl, (fun E h => by cases h)⟩, fun j hj => ?_, ⟨?_, ?_, ?_, ?_, ?_⟩⟩, ⟨⟨⟨d0, d1, d2, d3, by rw [d4, r37], by rw [d5, r38], 20, by omega, by omega, r37⟩, fun i hi => by omega, fun i hi => by omega, fun i hi => by omega, fun i hi => by omega⟩, ⟨⟨r0 22 (by omega) (by omega) (by omega) (by omega), by omega⟩, ⟨r0 24 (by omega) (by omega) (by omega) (by omega), by omega⟩, ⟨r0 29 (by omega) (by omega) (by omega) (by omega), by omega⟩, ⟨r0 34 (by omega) (by omega) (by omega) (by omega), by omega⟩, ⟨20, by omega, by omega, r37⟩, Or.inl r38, (fun i h => by omega), (fun i h => by omega), (fun i h => by omega), (fun i h => by omega)⟩⟩, fun s hs => ⟨⟨by rw [L1n (by omega), L0z (by omega)]; rfl, by simp, fun i r h => by simp at h⟩, ⟨by rw [R1n (by omega), R0z (by omega)]; rfl, by simp, hRV _ _⟩, fun r h => by cases h⟩, ⟨fun s hs => ?_, fun s hs => ?_, fun s hs => ?_⟩, by rw [a2, r0 6 (by omega) (by omega) (by omega) (by omega)], ⟨0, 0, by omega, by omega, ⟨a15, r0 75 (by omega) (by omega) (by omega) (by omega), a16, r0 76 (by omega) (by omega) (by omega) (by omega)⟩, (fun x c h => by omega), by rw [a11, r0 78 (by omega) (by omega) (by omega) (by omega)], by rw [a12, r79], by rw [a7, r0 80 (by omega) (by omega) (by omega) (by omega)], by rw [a8, r0 81 (by omega) (by omega) (by omega) (by omega)], by rw [a9, r0 82 (by omega) (by omega) (by omega) (by omega)], by rw [a13, r0 55 (by omega) (by omega) (by omega) (by omega)]⟩, ⟨0, by omega, by rw [L1n (by omega), L0z (by omega)]; rfl, r0 85 (by omega) (by omega) (by omega) (by omega), fun i hi => by omega⟩, h3⟩
  · obtain ⟨⟨b0, b3, b6, b9, b12⟩, b15, b18, b21, b24⟩ := i145 ⟨j, hj⟩
    dsimp only at b0 b3 b6 b9 b12 b15 b18 b21 b24
    rw [R1n (a := 6) (by omega), R1n (a := 7) (by omega), R1n (a := 8) (by omega), R1n (a := 9) (by omega), R1n (a := 10) (by omega), R1n (a := 11) (by omega), R1n (a := 12) (by omega), R1n (a := 13) (by omega), R1n (a := 14) (by omega), b0, b3, b6, b9, b12, b15, b18, b21, b24, R0z (a := 7) (by omega), R0z (a := 11) (by omega), R0z (a := 12) (by omega), R0z (a := 13) (by omega), R0z (a := 14) (by omega)]
    exact ⟨rfl, rfl, rfl, rfl, rfl, rfl, rfl, rfl, rfl, ⟨0, by omega, rfl⟩, 60, by omega, rfl⟩
  · exact fun j _ => ⟨1, by omega, by rw [R1n (by omega)]; rfl⟩
  · exact fun j _ => ⟨0, by omega, by rw [R1n (by omega), R0z (by omega)]; rfl⟩
  · exact fun j _ => ⟨12, by omega, by rw [R1n (by omega)]; rfl⟩
  · rw [R1n (by omega)]; rfl
  · rw [R1n (by omega)]; rfl
  · obtain ⟨b0, _, _⟩ := i153 ⟨s, hs⟩
    dsimp only at b0
    rw [b0, R1n (by omega)]
    exact ⟨rfl, 10, by omega, rfl⟩
  · obtain ⟨_, _, b8⟩ := i153 ⟨s, hs⟩
    dsimp only at b8
    rw [b8, R1n (by omega), R0z (by omega)]
    exact ⟨rfl, 0, by omega, rfl⟩
  · obtain ⟨_, b6, _⟩ := i153 ⟨s, by omega⟩
    dsimp only at b6
    rw [b6, R1n (by omega), R0z (by omega)]
/-- after the shape -/
theorem init_ok : ∃ M, f_L_shape 5000 20 0 L1 = some (0, M) ∧ INV M R1 0 0 := by
  obtain ⟨N, a1, a2⟩ := shape_k (fu := 5000) (k := 20) (v := 0) rel_L1 (by omega) (by omega) rfl
  exact ⟨_, a1, (init_LR rel_L1.e3c).cg (fun a h1 _ => mg_l h1) .rfl a2.e3c, a2⟩
end InitL
