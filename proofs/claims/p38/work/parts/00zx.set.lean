/-! ===== the small calls: what is asked, what is set ===== -/
section Set
variable {fu nS nL nC nO i j s t u e p c : Nat} {M m N n : Mem} {RR : Nat → List Row} {v x p1 p2 p3 p4 p5 p6 : Int32} {km : Nat → Nat} {f : Option XR} {g : Option (Int32 × Mem)}
theorem up_a : up M i j v i = upd (M i) j v := by simp [up, row]
theorem idx (b : Nat) (hb : b < 2 ^ 31) (x : Int32) : (x < 0 ∨ nI b ≤ x) ∨ ∃ k, k < b ∧ x = nI k := by
  by_cases h : x < 0
  · exact Or.inl (Or.inl h)
  · obtain ⟨k, hk, rfl⟩ := nI_of h
    by_cases h' : k < b
    · exact Or.inr ⟨k, h', rfl⟩
    · exact Or.inl (Or.inr (by rw [nI_leI hb hk]; omega))
theorem rng (b : Nat) (hb : b < 2 ^ 31) (x : Int32) : (x < 0 ∨ nI b < x) ∨ ∃ k, k ≤ b ∧ x = nI k := by
  by_cases h : x < 0
  · exact Or.inl (Or.inl h)
  · obtain ⟨k, hk, rfl⟩ := nI_of h
    by_cases h' : k ≤ b
    · exact Or.inr ⟨k, h', rfl⟩
    · exact Or.inl (Or.inr (by rw [nI_ltI hb hk]; omega))
theorem lt56 : ((5 : Int32) < x) = (nI 6 ≤ x) := propext (by
  rw [i_lt, i_le, show (5 : Int32).toInt = 5 from by decide, show (nI 6).toInt = 6 from by decide]; omega)
theorem lt23 : ((2 : Int32) < x) = (nI 3 ≤ x) := propext (by
  rw [i_lt, i_le, show (2 : Int32).toInt = 2 from by decide, show (nI 3).toInt = 3 from by decide]; omega)
theorem isSource0 : (f_X11_isSource x = 0) = (x < 0 ∨ nI 6 ≤ x) := by simp only [f_X11_isSource, in0, lt56]
theorem isStore0 : (f_X11_isStore x = 0) = (x < 0 ∨ nI 3 ≤ x) := by simp only [f_X11_isStore, in0, lt23]
theorem needI3 : f_X10_needIndex fu p1 3 M = if p1 < 0 ∨ nI 3 ≤ p1 then some (1, 0, M) else some (0, 0, M) := needI (b := nI 3)
theorem needI6 : f_X10_needIndex fu p1 6 M = if p1 < 0 ∨ nI 6 ≤ p1 then some (1, 0, M) else some (0, 0, M) := needI (b := nI 6)
theorem good {b k : Nat} (hb : b < 2 ^ 31) (hk : k < b) : ¬ (nI k < 0 ∨ nI b ≤ nI k) := by
  rw [nI_leI hb (by omega)]
  rintro (h | h)
  · rw [show (0 : Int32) = nI 0 from rfl, nI_ltI (by omega) (by omega)] at h; omega
  · omega
theorem goodr {b k : Nat} (hb : b < 2 ^ 31) (hk : k ≤ b) : ¬ (nI k < 0 ∨ nI b < nI k) := by
  rw [nI_ltI hb (by omega)]
  rintro (h | h)
  · rw [show (0 : Int32) = nI 0 from rfl, nI_ltI (by omega) (by omega)] at h; omega
  · omega
theorem REL.of {t' : Nat} (h : REL M m t u) (hk : KR N n t' u) (fC : ∀ a, 57 ≤ a → N a = M a) (fM : ∀ a, (1 ≤ a ∧ a ≤ 5) ∨ (18 ≤ a ∧ a ≤ 29) ∨ 42 ≤ a → n a = m a) (f0 : ∀ j, j ≠ 0 → j ≠ 7 → j ≠ 8 → j ≠ 39 → n 0 j = m 0 j) (hF : FR N n) : REL N n t' u := by
  obtain ⟨RR, nS, nL, nC, nO, w1, w2, w3, w4, w5, w6, ⟨⟨k, cols, k1, k2, k3, k4, k5, k6, k7⟩, l2, l3, l4, l5, l6, p, p1, p2, p3, p4⟩, w8⟩ := h
  have hD : DS n m := ⟨fun a z1 z2 => fM a (by omega), fun j z1 z2 => f0 j (by omega) (by omega) (by omega) (by omega)⟩
  refine ⟨RR, nS, nL, nC, nO, w1.of hk (fun a z1 z2 z3 => fC a (by omega)) (fun a z1 z2 => fM a (by omega)) (f0 6 (by omega) (by omega) (by omega) (by omega)), w2.cg (fun a z1 z2 => fC a (by omega)) hD, w3.cg hD, w4.cg (fC 59 (by omega)) (fM 18 (by omega)), hF, by rw [fC 121 (by omega), fM 48 (by omega)]; exact w6, ⟨⟨k, cols, k1, k2, by rw [fC 90 (by omega)]; exact k3, by rw [f0 75 (by omega) (by omega) (by omega) (by omega)]; exact k4, by rw [fC 90 (by omega)]; exact k5, by rw [f0 76 (by omega) (by omega) (by omega) (by omega)]; exact k6, fun x c hx hc => by rw [fC 91 (by omega), fM 56 (by omega)]; exact k7 x c hx hc⟩, ?_, ?_, ?_, ?_, ?_, p, p1, ?_, ?_, ?_⟩, w8.cg ⟨fun a z1 z2 => fC a (by omega), fun a z1 z2 => fM a (by omega), f0 85 (by omega) (by omega) (by omega) (by omega)⟩⟩
  · rw [fC 90 (by omega), f0 78 (by omega) (by omega) (by omega) (by omega)]; exact l2
  · rw [fC 90 (by omega), f0 79 (by omega) (by omega) (by omega) (by omega)]; exact l3
  · rw [fC 90 (by omega), f0 80 (by omega) (by omega) (by omega) (by omega)]; exact l4
  · rw [fC 90 (by omega), f0 81 (by omega) (by omega) (by omega) (by omega)]; exact l5
  · rw [fC 90 (by omega), f0 82 (by omega) (by omega) (by omega) (by omega)]; exact l6
  · rw [fC 90 (by omega)]; exact p2
  · rw [f0 83 (by omega) (by omega) (by omega) (by omega)]; exact p3
  · rw [fC 93 (by omega), fC 94 (by omega), fM 57 (by omega)]; exact p4
/-- the stores' arrays are set; the entries stay -/
theorem KR.set (h : KR M m t u) (h1 : ∀ a, 1 ≤ a → a ≤ 47 → a ≠ 4 → a ≠ 5 → N a = M a) (h2 : n 0 7 = m 0 7) (h3 : n 0 8 = m 0 8) (h4 : n 0 39 = m 0 39) (hA : KA N n) (hG : KG n) (h6 : ∀ a, 30 ≤ a → a ≤ 41 → n a = m a) : KR N n t u := by
  obtain ⟨⟨a1, a2, a3, a4⟩, _, _, L, d1, d2, d3⟩ := h
  refine ⟨⟨?_, ?_, ?_, ?_⟩, hA, hG, L, d1.cg (fun i _ _ _ _ => h1 i (by omega) (by omega) (by omega) (by omega)), d2.cg h4 h6, d3⟩
  all_goals (try simp (disch := omega) only [h1, h2, h3])
  all_goals assumption
theorem inr_upd {f : Nat → Int32} {n k w q : Nat} (h : inr f n k) (hw : w ≤ k) : inr (upd f q (nI w)) n k := fun j hj => by
  by_cases hq : j = q
  · exact ⟨w, hw, by simp [upd, hq]⟩
  · obtain ⟨v, v1, v2⟩ := h j hj
    exact ⟨v, v1, by simp [upd, hq, v2]⟩
theorem setPace_call (h : REL M m t u) : OUT kmB t u (f_X10_setPace fu p1 p2 p3 M) (f_X11_setPace fu p1 p2 p3 m) := by
  have e10 : (1 : Int32) ≤ 0 ↔ False := by decide
  have e20 : (2 : Int32) ≤ 0 ↔ False := by decide
  rcases idx 3 (by omega) p1 with h1 | ⟨j, hj, rfl⟩
  · refine OUT.same (k := 1) (v := 0) (p1 := 0) h (by omega) ?_ ?_ (fun hk => by omega)
    · simp only [f_X10_setPace, needI3, h1, if_true, bx_1, xer]
    · simp only [f_X11_setPace, nm_d, isStore0, h1, if_true, up_s, e10, if_false]
      rfl
  have g1 := good (b := 3) (by omega) hj
  rcases rng 30 (by omega) p2 with h2 | ⟨a, ha, rfl⟩
  · refine OUT.same (k := 2) (v := 0) (p1 := 0) h (by omega) ?_ ?_ (fun hk => by omega)
    · simp only [f_X10_setPace, needI3, g1, if_false, bx_0, nm_d, isIn0, show (30 : Int32) = nI 30 from rfl, h2, if_true, f_X10_needArgument, bx_2, xer]
    · simp only [f_X11_setPace, nm_d, isStore0, g1, if_false, in0, show (30 : Int32) = nI 30 from rfl, h2, if_true, up_s, e20]
      rfl
  have g2 := goodr (b := 30) (by omega) ha
  rcases rng 60 (by omega) p3 with h3 | ⟨b, hb, rfl⟩
  · refine OUT.same (k := 2) (v := 0) (p1 := 0) h (by omega) ?_ ?_ (fun hk => by omega)
    · simp only [f_X10_setPace, needI3, g1, g2, if_false, bx_0, nm_d, isIn0, show (30 : Int32) = nI 30 from rfl, show (60 : Int32) = nI 60 from rfl, h3, if_true, f_X10_needArgument, bx_2, xer]
    · simp only [f_X11_setPace, nm_d, isStore0, g1, g2, if_false, in0, show (30 : Int32) = nI 30 from rfl, show (60 : Int32) = nI 60 from rfl, h3, if_true, up_s, e20]
      rfl
  have g3 := goodr (b := 60) (by omega) hb
  obtain ⟨_, _, _, _, _, w1, _, _, _, w5, _⟩ := id h
  obtain ⟨b1, b2, b3, b4, b5, b6, b7, b8, b9⟩ := id w1.1.2.1
  obtain ⟨c1, c2, c3, c4, c5⟩ := id w1.1.2.2.1
  refine ⟨0, M 49 j, up (up M 49 j (nI a)) 4 j (nI b), m 6 j, up (up (up m 0 0 0) 6 j (nI a)) 7 j (nI b), t, u, ?_, ?_, ?_, fun _ => by rw [b1], by decide, Nat.le_refl _, by omega, Nat.le_refl _, by omega, h.of (w1.1.set ?_ ?_ ?_ ?_ ⟨?_, ?_, ?_, ?_, ?_, ?_, ?_, ?_, ?_⟩ ⟨?_, ?_, ?_, ?_, ?_⟩ ?_) ?_ ?_ ?_ (w5.cg ?_ ?_)⟩
  · simp (disch := omega) only [f_X10_setPace, needI3, g1, g2, g3, if_false, bx_0, nm_d, isIn0, show (30 : Int32) = nI 30 from rfl, show (60 : Int32) = nI 60 from rfl, f_X10_needArgument, i10, inb_nI, grd_true, nI_clamp]
  · simp (disch := omega) only [f_X11_setPace, nm_d, isStore0, g1, g2, g3, if_false, in0, show (30 : Int32) = nI 30 from rfl, show (60 : Int32) = nI 60 from rfl, up_s, Int32.le_refl, if_true, inb_nI, grd_true, nI_clamp, up_n]
  all_goals (try simp (disch := omega) only [up_n, up_m, up_s, up_a, b1, b2, b3, b4, b5, b6, b7, b8, b9])
  all_goals (try assumption)
  · rfl
  · intro a h1 h2 h3 h4; rw [up_n (by omega), up_n (by omega)]
  · exact inr_upd c1 ha
  · exact inr_upd c2 hb
  · intro a h1 h2; rw [up_n (by omega), up_n (by omega), up_n (by omega)]
  · intro a h1; rw [up_n (by omega), up_n (by omega)]
  · intro a h1; rw [up_n (by omega), up_n (by omega), up_n (by omega)]
  · intro j h1 h2 h3 h4; simp [upd, h1]
end Set
