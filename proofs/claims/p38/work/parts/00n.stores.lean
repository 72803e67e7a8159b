/-! ===== an attempt, a request: both ===== -/
section Stores
variable {fu t u d j : Nat} {M m N n : Mem}
theorem upd_self {f : Nat → Int32} {k : Nat} {v : Int32} (h : f k = v) : upd f k v = f := by
  funext i
  simp only [upd]
  split
  · rw [← h]; congr 1; symm; assumption
  · rfl
theorem upd_upd {f : Nat → Int32} {k : Nat} {v w : Int32} : upd (upd f k v) k w = upd f k w := by
  funext i
  simp only [upd]
  split <;> rfl
theorem up_self {i k : Nat} {v : Int32} (h : M i k = v) : up M i k v = M := by
  rw [up_row, upd_self h, row_self]
/-- the part of an attempt that makes it -/
def mtry (fu j : Nat) (m : Mem) : Option Mem := f_X11_goes fu (m 6 j) (up (up m 14 j (if m 13 j = m 0 8 / 10 then m 14 j + 1 else 1)) 13 j (m 0 8 / 10))
theorem attempt2 (hfu : 5000 ≤ fu) (h : KR M m t u) (ht : t < 2 ^ 29) (hj : j < 3) : ∃ N n n' t' r, f_X8_attempt fu (nI j) M = some (r, N) ∧ mtry fu j m = some n' ∧ t ≤ t' ∧ t' ≤ t + 30 ∧ ((n' 11 j ≤ 0 ∧ n = n' ∧ r = 1) ∨ (¬ n' 11 j ≤ 0 ∧ n = up n' 11 j (n' 11 j - 1) ∧ r = 0)) ∧ KR N n t' u ∧ (∀ a, a ≠ 1 → a ≠ 2 → a ≠ 3 → a ≠ 52 → a ≠ 55 → a ≠ 56 → N a = M a) ∧ (∀ a, 0 < a → a < 30 ∨ 41 < a → a ≠ 11 → a ≠ 13 → a ≠ 14 → n a = m a ∧ n' a = m a) ∧ ∀ j, j ≠ 8 → j ≠ 39 → n 0 j = m 0 j ∧ n' 0 j = m 0 j := by
  obtain ⟨hT, hA, hG, hL⟩ := h
  have hd := hG.1 j hj
  obtain ⟨dl, hd1, hd2⟩ := hd
  generalize hm1 : up (up m 14 j (if m 13 j = m 0 8 / 10 then m 14 j + 1 else 1)) 13 j (m 0 8 / 10) = m1
  generalize hM1 : (if M 55 j = M 1 0 / 10 then up M 56 j (M 56 j + 1) else up (up (up M 55 j (M 1 0 / 10)) 56 j 0) 56 j (0 + 1)) = M1
  have e1 : f_X8_attempt fu (nI j) M = bd (f_X8_goOnTo fu (M1 1 0 + M1 49 j) M1) (fun M_7 => (if (M_7 52 j) ≤ 0 then some (1, M_7) else nm (up M_7 52 j ((M_7 52 j) - 1)) (fun M_9 => some (0, M_9)))) := by
    simp (disch := omega) only [f_X8_attempt, nm_d, jn_d, inb_nI, grd_true, nI_clamp]
    rw [← hM1]
    split
    · rfl
    · simp only [up_s]
  have fM : ∀ a, a ≠ 55 → a ≠ 56 → M1 a = M a := fun a h1 h2 => by
    rw [← hM1]
    split
    · rw [up_n h2]
    · rw [up_n h2, up_n h2, up_n h1]
  have fm : ∀ a, a ≠ 13 → a ≠ 14 → m1 a = m a := fun a h1 h2 => by rw [← hm1, up_n h1, up_n h2]
  obtain ⟨⟨a1, a2, a3, a4⟩, ⟨b1, b2, b3, b4, b5, b6, b7, b8, b9⟩, ⟨c1, c2, c3, c4, c5⟩, L, d1, d2, d3⟩ := (⟨hT, hA, hG, hL⟩ : KR M m t u)
  have hk : KR M1 m1 t u := by
    refine ⟨⟨?_, ?_, ?_, ?_⟩, ⟨?_, ?_, ?_, ?_, ?_, ?_, ?_, ?_, ?_⟩, ⟨?_, ?_, ?_, ?_, ?_⟩, L, d1.cg (fun i _ _ _ _ => fM i (by omega) (by omega)), d2.cg (by rw [fm 0 (by omega) (by omega)]) (fun i _ _ => fm i (by omega) (by omega)), d3⟩
    case refine_12 =>
      rw [← hM1, ← hm1, up_r, up_n (show 13 ≠ 14 by omega)]
      by_cases hw : M 55 j = M 1 0 / 10
      · rw [if_pos hw, up_n (by omega), b8, upd_self (by rw [← b8, hw, a1, a2])]
      · rw [if_neg hw, up_n (by omega), up_n (by omega), up_r, b8, a1, a2]
    case refine_13 =>
      rw [← hM1, ← hm1, up_n (show 14 ≠ 13 by omega), up_r]
      by_cases hw : M 55 j = M 1 0 / 10
      · rw [if_pos hw, up_r, b9, if_pos (by rw [← b8, hw, a1, a2])]
      · rw [if_neg hw, up_r, up_r, upd_upd, up_n (by omega), b9, if_neg (by rw [← b8]; rw [a1] at hw; rw [a2]; exact hw)]
        rfl
    all_goals (try simp (disch := omega) only [fM, fm])
    all_goals assumption
  obtain ⟨N, n', g1, g2, g3, g4, g5⟩ := goOn2 (d := dl) hfu hk (by omega)
  have e2 : (M1 1 0 + M1 49 j : Int32) = nI (t + dl) := by rw [fM 1 (by omega) (by omega), fM 49 (by omega) (by omega), a1, b1, hd2, nI_add]
  rw [e2, g1, bd_some] at e1
  have e3 : mtry fu j m = some n' := by
    simp only [mtry]
    rw [hm1, hd2, g2]
  have fN : ∀ a, a ≠ 1 → a ≠ 2 → a ≠ 3 → a ≠ 55 → a ≠ 56 → N a = M a := fun a h1 h2 h3 h4 h5 => by rw [g4 a h1 h2 h3, fM a h4 h5]
  have fn : ∀ a, 0 < a → a < 30 ∨ 41 < a → a ≠ 13 → a ≠ 14 → n' a = m a := fun a h1 h2 h3 h4 => by rw [g5.1 a h1 h2, fm a h3 h4]
  have fn0 : ∀ j, j ≠ 8 → j ≠ 39 → n' 0 j = m 0 j := fun j h1 h2 => by rw [g5.2 j h1 h2, fm 0 (by omega) (by omega)]
  have h52 : N 52 = n' 11 := g3.2.1.2.2.2.2.2.1
  by_cases hf : n' 11 j ≤ 0
  · rw [h52, if_pos hf] at e1
    exact ⟨N, n', n', t + dl, 1, e1, e3, by omega, by omega, Or.inl ⟨hf, rfl, rfl⟩, g3, fun a h1 h2 h3 _ h4 h5 => fN a h1 h2 h3 h4 h5, fun a h1 h2 _ h3 h4 => ⟨fn a h1 h2 h3 h4, fn a h1 h2 h3 h4⟩, fun j h1 h2 => ⟨fn0 j h1 h2, fn0 j h1 h2⟩⟩
  · rw [h52, if_neg hf, nm_d] at e1
    refine ⟨up N 52 j (n' 11 j - 1), up n' 11 j (n' 11 j - 1), n', t + dl, 0, e1, e3, by omega, by omega, Or.inr ⟨hf, rfl, rfl⟩, ?_, fun a h1 h2 h3 h3' h4 h5 => by rw [up_n h3']; exact fN a h1 h2 h3 h4 h5, fun a h1 h2 h2' h3 h4 => ⟨by rw [up_n h2']; exact fn a h1 h2 h3 h4, fn a h1 h2 h3 h4⟩, fun j h1 h2 => ⟨by rw [up_n (by omega)]; exact fn0 j h1 h2, fn0 j h1 h2⟩⟩
    obtain ⟨⟨a1, a2, a3, a4⟩, ⟨b1, b2, b3, b4, b5, b6, b7, b8, b9⟩, ⟨c1, c2, c3, c4, c5⟩, L, d1, d2, d3⟩ := g3
    refine ⟨⟨?_, ?_, ?_, ?_⟩, ⟨?_, ?_, ?_, ?_, ?_, ?_, ?_, ?_, ?_⟩, ⟨?_, ?_, ?_, ?_, ?_⟩, L, d1.cg (fun i _ _ _ _ => by rw [up_n (by omega)]), d2.cg (by rw [up_n (by omega)]) (fun i _ _ => by rw [up_n (by omega)]), d3⟩
    case refine_10 => rw [up_r, up_r, h52]
    all_goals (try simp (disch := omega) only [up_n])
    all_goals assumption
end Stores
