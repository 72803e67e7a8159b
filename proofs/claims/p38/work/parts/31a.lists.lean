/-! ===== what the constructors made, by numbers ===== -/
theorem all_z {P : Nat → Prop} : ∀ k, k < 0 → P k := fun _ h => absurd h (Nat.not_lt_zero _)
theorem all_s {P : Nat → Prop} {n : Nat} (h : ∀ k, k < n → P k) (hn : P n) : ∀ k, k < n + 1 → P k := fun k hk => (Nat.lt_succ_iff_lt_or_eq.mp hk).elim (h k) (fun e => e ▸ hn)
def fPC (D : va_G) (t : Nat → ClassId) (U : Nat → Nat) (H : Heap) (k : Nat) : Prop := va_at D vwCl (U k, cC (D, t, U) k (C0 k)) H
set_option maxHeartbeats 4000000 in
set_option maxRecDepth 100000 in
theorem wX10_wl {D : va_G} {t : Nat → ClassId} {U : Nat → Nat} {H : Heap} (hP : va_P D vwCl (wX10 (D, t, U) (U 0) U) H) : va_P D vwCl (wl LC (D, t, U) C0) H := by
  have hT9 : va_P D vwCl (wX9 (D, t, U) (U 1) (fun i => U (1 + i)) ++ wX3 (D, t, U) (U 1) (U 2) (fun i => U (2 + i)) ++ wX8 (D, t, U) (U 1) (U 2) (U 48) (fun i => U (48 + i)) ++ wX7 (D, t, U) (U 1) (U 2) (U 57) (fun i => U (57 + i)) ++ wX4 (D, t, U) (U 80) (fun i => U (80 + i)) ++ wX0 (D, t, U) (U 90) (fun i => U (90 + i)) ++ wX0 (D, t, U) (U 105) (fun i => U (105 + i)) ++ wX1 (D, t, U) (U 48) (U 57) (U 2) (U 80) (U 90) (U 120) (fun i => U (120 + i)) ++ wX2 (D, t, U) (U 48) (U 57) (U 122) (fun i => U (122 + i))) H := fun k q h => hP (k + 1) q h
  have hB8 : va_P D vwCl (wX2 (D, t, U) (U 48) (U 57) (U 122) (fun i => U (122 + i))) H := vP_r hT9
  have hT8 := vP_l hT9
  have hB7 : va_P D vwCl (wX1 (D, t, U) (U 48) (U 57) (U 2) (U 80) (U 90) (U 120) (fun i => U (120 + i))) H := vP_r hT8
  have hT7 := vP_l hT8
  have hB6 : va_P D vwCl (wX0 (D, t, U) (U 105) (fun i => U (105 + i))) H := vP_r hT7
  have hT6 := vP_l hT7
  have hB5 : va_P D vwCl (wX0 (D, t, U) (U 90) (fun i => U (90 + i))) H := vP_r hT6
  have hT5 := vP_l hT6
  have hB4 : va_P D vwCl (wX4 (D, t, U) (U 80) (fun i => U (80 + i))) H := vP_r hT5
  have hT4 := vP_l hT5
  have hB3 : va_P D vwCl (wX7 (D, t, U) (U 1) (U 2) (U 57) (fun i => U (57 + i))) H := vP_r hT4
  have hT3 := vP_l hT4
  have hB2 : va_P D vwCl (wX8 (D, t, U) (U 1) (U 2) (U 48) (fun i => U (48 + i))) H := vP_r hT3
  have hT2 := vP_l hT3
  have hB1 : va_P D vwCl (wX3 (D, t, U) (U 1) (U 2) (fun i => U (2 + i))) H := vP_r hT2
  have hT1 := vP_l hT2
  have hB0 : va_P D vwCl (wX9 (D, t, U) (U 1) (fun i => U (1 + i))) H := hT1
  have h0 : fPC D t U H 0 := by unfold fPC; rw [cC_10 (i := 0) rfl]; exact hP 0 _ rfl
  have h1 : fPC D t U H 1 := by unfold fPC; rw [cC_9 (i := 1) rfl]; exact hB0 0 _ rfl
  have h2 : fPC D t U H 2 := by unfold fPC; rw [cC_3 (i := 2) rfl]; exact hB1 0 _ rfl
  have h3 : fPC D t U H 3 := by
    unfold fPC
    rw [cC_23 (i := 3) (n := 6) rfl]
    have hx := hB1 1 (U 3, .inl (t 3, 6, .inr (.inr (.inr (.inr (fun j => some (if j = 0 then U (2 + 4) else if j = 1 then U (2 + 11) else if j = 2 then U (2 + 18) else if j = 3 then U (2 + 25) else if j = 4 then U (2 + 32) else U (2 + 39)))))))) rfl
    exact Eq.trans hx (congrArg some (vp_cgq (fun j hj => by rcases (show j = 0 ∨ j = 1 ∨ j = 2 ∨ j = 3 ∨ j = 4 ∨ j = 5 by omega) with rfl | rfl | rfl | rfl | rfl | rfl <;> rfl)))
  have h4 : fPC D t U H 4 := by unfold fPC; rw [cC_20 (i := 4) (n := 3) rfl]; exact hB1 2 _ rfl
  have h5 : fPC D t U H 5 := by unfold fPC; rw [cC_20 (i := 5) (n := 3) rfl]; exact hB1 3 _ rfl
  have h6 : fPC D t U H 6 := by unfold fPC; rw [cC_5 (i := 6) rfl]; exact hB1 4 _ rfl
  have h7 : fPC D t U H 7 := by unfold fPC; rw [cC_6 (i := 7) rfl]; exact hB1 5 _ rfl
  have h8 : fPC D t U H 8 := by unfold fPC; rw [cC_20 (i := 8) (n := 12) rfl]; exact hB1 6 _ rfl
  have h9 : fPC D t U H 9 := by unfold fPC; rw [cC_20 (i := 9) (n := 48) rfl]; exact hB1 7 _ rfl
  have h10 : fPC D t U H 10 := by unfold fPC; rw [cC_20 (i := 10) (n := 4) rfl]; exact hB1 8 _ rfl
  have h11 : fPC D t U H 11 := by unfold fPC; rw [cC_20 (i := 11) (n := 4) rfl]; exact hB1 9 _ rfl
  have h12 : fPC D t U H 12 := by unfold fPC; rw [cC_20 (i := 12) (n := 4) rfl]; exact hB1 10 _ rfl
  have h13 : fPC D t U H 13 := by unfold fPC; rw [cC_5 (i := 13) rfl]; exact hB1 11 _ rfl
  have h14 : fPC D t U H 14 := by unfold fPC; rw [cC_6 (i := 14) rfl]; exact hB1 12 _ rfl
  have h15 : fPC D t U H 15 := by unfold fPC; rw [cC_20 (i := 15) (n := 12) rfl]; exact hB1 13 _ rfl
  have h16 : fPC D t U H 16 := by unfold fPC; rw [cC_20 (i := 16) (n := 48) rfl]; exact hB1 14 _ rfl
  have h17 : fPC D t U H 17 := by unfold fPC; rw [cC_20 (i := 17) (n := 4) rfl]; exact hB1 15 _ rfl
  have h18 : fPC D t U H 18 := by unfold fPC; rw [cC_20 (i := 18) (n := 4) rfl]; exact hB1 16 _ rfl
  have h19 : fPC D t U H 19 := by unfold fPC; rw [cC_20 (i := 19) (n := 4) rfl]; exact hB1 17 _ rfl
  have h20 : fPC D t U H 20 := by unfold fPC; rw [cC_5 (i := 20) rfl]; exact hB1 18 _ rfl
  have h21 : fPC D t U H 21 := by unfold fPC; rw [cC_6 (i := 21) rfl]; exact hB1 19 _ rfl
  have h22 : fPC D t U H 22 := by unfold fPC; rw [cC_20 (i := 22) (n := 12) rfl]; exact hB1 20 _ rfl
  have h23 : fPC D t U H 23 := by unfold fPC; rw [cC_20 (i := 23) (n := 48) rfl]; exact hB1 21 _ rfl
  have h24 : fPC D t U H 24 := by unfold fPC; rw [cC_20 (i := 24) (n := 4) rfl]; exact hB1 22 _ rfl
  have h25 : fPC D t U H 25 := by unfold fPC; rw [cC_20 (i := 25) (n := 4) rfl]; exact hB1 23 _ rfl
  have h26 : fPC D t U H 26 := by unfold fPC; rw [cC_20 (i := 26) (n := 4) rfl]; exact hB1 24 _ rfl
  have h27 : fPC D t U H 27 := by unfold fPC; rw [cC_5 (i := 27) rfl]; exact hB1 25 _ rfl
  have h28 : fPC D t U H 28 := by unfold fPC; rw [cC_6 (i := 28) rfl]; exact hB1 26 _ rfl
  have h29 : fPC D t U H 29 := by unfold fPC; rw [cC_20 (i := 29) (n := 12) rfl]; exact hB1 27 _ rfl
  have h30 : fPC D t U H 30 := by unfold fPC; rw [cC_20 (i := 30) (n := 48) rfl]; exact hB1 28 _ rfl
  have h31 : fPC D t U H 31 := by unfold fPC; rw [cC_20 (i := 31) (n := 4) rfl]; exact hB1 29 _ rfl
  have h32 : fPC D t U H 32 := by unfold fPC; rw [cC_20 (i := 32) (n := 4) rfl]; exact hB1 30 _ rfl
  have h33 : fPC D t U H 33 := by unfold fPC; rw [cC_20 (i := 33) (n := 4) rfl]; exact hB1 31 _ rfl
  have h34 : fPC D t U H 34 := by unfold fPC; rw [cC_5 (i := 34) rfl]; exact hB1 32 _ rfl
  have h35 : fPC D t U H 35 := by unfold fPC; rw [cC_6 (i := 35) rfl]; exact hB1 33 _ rfl
  have h36 : fPC D t U H 36 := by unfold fPC; rw [cC_20 (i := 36) (n := 12) rfl]; exact hB1 34 _ rfl
  have h37 : fPC D t U H 37 := by unfold fPC; rw [cC_20 (i := 37) (n := 48) rfl]; exact hB1 35 _ rfl
  have h38 : fPC D t U H 38 := by unfold fPC; rw [cC_20 (i := 38) (n := 4) rfl]; exact hB1 36 _ rfl
  have h39 : fPC D t U H 39 := by unfold fPC; rw [cC_20 (i := 39) (n := 4) rfl]; exact hB1 37 _ rfl
  have h40 : fPC D t U H 40 := by unfold fPC; rw [cC_20 (i := 40) (n := 4) rfl]; exact hB1 38 _ rfl
  have h41 : fPC D t U H 41 := by unfold fPC; rw [cC_5 (i := 41) rfl]; exact hB1 39 _ rfl
  have h42 : fPC D t U H 42 := by unfold fPC; rw [cC_6 (i := 42) rfl]; exact hB1 40 _ rfl
  have h43 : fPC D t U H 43 := by unfold fPC; rw [cC_20 (i := 43) (n := 12) rfl]; exact hB1 41 _ rfl
  have h44 : fPC D t U H 44 := by unfold fPC; rw [cC_20 (i := 44) (n := 48) rfl]; exact hB1 42 _ rfl
  have h45 : fPC D t U H 45 := by unfold fPC; rw [cC_20 (i := 45) (n := 4) rfl]; exact hB1 43 _ rfl
  have h46 : fPC D t U H 46 := by unfold fPC; rw [cC_20 (i := 46) (n := 4) rfl]; exact hB1 44 _ rfl
  have h47 : fPC D t U H 47 := by unfold fPC; rw [cC_20 (i := 47) (n := 4) rfl]; exact hB1 45 _ rfl
  have h48 : fPC D t U H 48 := by unfold fPC; rw [cC_8 (i := 48) rfl]; exact hB2 0 _ rfl
  have h49 : fPC D t U H 49 := by unfold fPC; rw [cC_20 (i := 49) (n := 3) rfl]; exact hB2 1 _ rfl
  have h50 : fPC D t U H 50 := by unfold fPC; rw [cC_20 (i := 50) (n := 3) rfl]; exact hB2 2 _ rfl
  have h51 : fPC D t U H 51 := by unfold fPC; rw [cC_20 (i := 51) (n := 3) rfl]; exact hB2 3 _ rfl
  have h52 : fPC D t U H 52 := by unfold fPC; rw [cC_20 (i := 52) (n := 3) rfl]; exact hB2 4 _ rfl
  have h53 : fPC D t U H 53 := by unfold fPC; rw [cC_21 (i := 53) (n := 3) rfl]; exact hB2 5 _ rfl
  have h54 : fPC D t U H 54 := by unfold fPC; rw [cC_21 (i := 54) (n := 18) rfl]; exact hB2 6 _ rfl
  have h55 : fPC D t U H 55 := by unfold fPC; rw [cC_20 (i := 55) (n := 3) rfl]; exact hB2 7 _ rfl
  have h56 : fPC D t U H 56 := by unfold fPC; rw [cC_20 (i := 56) (n := 3) rfl]; exact hB2 8 _ rfl
  have h57 : fPC D t U H 57 := by unfold fPC; rw [cC_7 (i := 57) rfl]; exact hB3 0 _ rfl
  have h58 : fPC D t U H 58 := by unfold fPC; rw [cC_20 (i := 58) (n := 6) rfl]; exact hB3 1 _ rfl
  have h59 : fPC D t U H 59 := by unfold fPC; rw [cC_20 (i := 59) (n := 6) rfl]; exact hB3 2 _ rfl
  have h60 : fPC D t U H 60 := by unfold fPC; rw [cC_20 (i := 60) (n := 6) rfl]; exact hB3 3 _ rfl
  have h61 : fPC D t U H 61 := by
    unfold fPC
    rw [cC_22 (i := 61) (n := 6) rfl]
    have hx := hB3 4 (U 61, .inl (t 2, 6, .inr (.inr (.inr (.inr (fun j => some (if j = 0 then U (57 + 5) else if j = 1 then U (57 + 8) else if j = 2 then U (57 + 11) else if j = 3 then U (57 + 14) else if j = 4 then U (57 + 17) else U (57 + 20)))))))) rfl
    exact Eq.trans hx (congrArg some (vp_cgq (fun j hj => by rcases (show j = 0 ∨ j = 1 ∨ j = 2 ∨ j = 3 ∨ j = 4 ∨ j = 5 by omega) with rfl | rfl | rfl | rfl | rfl | rfl <;> rfl)))
  have h62 : fPC D t U H 62 := by unfold fPC; rw [cC_6 (i := 62) rfl]; exact hB3 5 _ rfl
  have h63 : fPC D t U H 63 := by unfold fPC; rw [cC_20 (i := 63) (n := 12) rfl]; exact hB3 6 _ rfl
  have h64 : fPC D t U H 64 := by unfold fPC; rw [cC_20 (i := 64) (n := 48) rfl]; exact hB3 7 _ rfl
  have h65 : fPC D t U H 65 := by unfold fPC; rw [cC_6 (i := 65) rfl]; exact hB3 8 _ rfl
  have h66 : fPC D t U H 66 := by unfold fPC; rw [cC_20 (i := 66) (n := 12) rfl]; exact hB3 9 _ rfl
  have h67 : fPC D t U H 67 := by unfold fPC; rw [cC_20 (i := 67) (n := 48) rfl]; exact hB3 10 _ rfl
  have h68 : fPC D t U H 68 := by unfold fPC; rw [cC_6 (i := 68) rfl]; exact hB3 11 _ rfl
  have h69 : fPC D t U H 69 := by unfold fPC; rw [cC_20 (i := 69) (n := 12) rfl]; exact hB3 12 _ rfl
  have h70 : fPC D t U H 70 := by unfold fPC; rw [cC_20 (i := 70) (n := 48) rfl]; exact hB3 13 _ rfl
  have h71 : fPC D t U H 71 := by unfold fPC; rw [cC_6 (i := 71) rfl]; exact hB3 14 _ rfl
  have h72 : fPC D t U H 72 := by unfold fPC; rw [cC_20 (i := 72) (n := 12) rfl]; exact hB3 15 _ rfl
  have h73 : fPC D t U H 73 := by unfold fPC; rw [cC_20 (i := 73) (n := 48) rfl]; exact hB3 16 _ rfl
  have h74 : fPC D t U H 74 := by unfold fPC; rw [cC_6 (i := 74) rfl]; exact hB3 17 _ rfl
  have h75 : fPC D t U H 75 := by unfold fPC; rw [cC_20 (i := 75) (n := 12) rfl]; exact hB3 18 _ rfl
  have h76 : fPC D t U H 76 := by unfold fPC; rw [cC_20 (i := 76) (n := 48) rfl]; exact hB3 19 _ rfl
  have h77 : fPC D t U H 77 := by unfold fPC; rw [cC_6 (i := 77) rfl]; exact hB3 20 _ rfl
  have h78 : fPC D t U H 78 := by unfold fPC; rw [cC_20 (i := 78) (n := 12) rfl]; exact hB3 21 _ rfl
  have h79 : fPC D t U H 79 := by unfold fPC; rw [cC_20 (i := 79) (n := 48) rfl]; exact hB3 22 _ rfl
  have h80 : fPC D t U H 80 := by unfold fPC; rw [cC_4 (i := 80) rfl]; exact hB4 0 _ rfl
  have h81 : fPC D t U H 81 := by unfold fPC; rw [cC_20 (i := 81) (n := 3) rfl]; exact hB4 1 _ rfl
  have h82 : fPC D t U H 82 := by unfold fPC; rw [cC_20 (i := 82) (n := 6) rfl]; exact hB4 2 _ rfl
  have h83 : fPC D t U H 83 := by unfold fPC; rw [cC_20 (i := 83) (n := 6) rfl]; exact hB4 3 _ rfl
  have h84 : fPC D t U H 84 := by unfold fPC; rw [cC_20 (i := 84) (n := 4) rfl]; exact hB4 4 _ rfl
  have h85 : fPC D t U H 85 := by unfold fPC; rw [cC_20 (i := 85) (n := 4) rfl]; exact hB4 5 _ rfl
  have h86 : fPC D t U H 86 := by unfold fPC; rw [cC_20 (i := 86) (n := 4) rfl]; exact hB4 6 _ rfl
  have h87 : fPC D t U H 87 := by unfold fPC; rw [cC_20 (i := 87) (n := 4) rfl]; exact hB4 7 _ rfl
  have h88 : fPC D t U H 88 := by unfold fPC; rw [cC_20 (i := 88) (n := 3) rfl]; exact hB4 8 _ rfl
  have h89 : fPC D t U H 89 := by unfold fPC; rw [cC_20 (i := 89) (n := 3) rfl]; exact hB4 9 _ rfl
  have h90 : fPC D t U H 90 := by unfold fPC; rw [cC_0 (i := 90) rfl]; exact hB5 0 _ rfl
  have h91 : fPC D t U H 91 := by unfold fPC; rw [cC_20 (i := 91) (n := 120) rfl]; exact hB5 1 _ rfl
  have h92 : fPC D t U H 92 := by unfold fPC; rw [cC_20 (i := 92) (n := 3) rfl]; exact hB5 2 _ rfl
  have h93 : fPC D t U H 93 := by unfold fPC; rw [cC_20 (i := 93) (n := 3) rfl]; exact hB5 3 _ rfl
  have h94 : fPC D t U H 94 := by unfold fPC; rw [cC_20 (i := 94) (n := 3) rfl]; exact hB5 4 _ rfl
  have h95 : fPC D t U H 95 := by
    unfold fPC
    rw [cC_22 (i := 95) (n := 3) rfl]
    have hx := hB5 5 (U 95, .inl (t 2, 3, .inr (.inr (.inr (.inr (fun j => some (if j = 0 then U (90 + 6) else if j = 1 then U (90 + 9) else U (90 + 12)))))))) rfl
    exact Eq.trans hx (congrArg some (vp_cgq (fun j hj => by rcases (show j = 0 ∨ j = 1 ∨ j = 2 by omega) with rfl | rfl | rfl <;> rfl)))
  have h96 : fPC D t U H 96 := by unfold fPC; rw [cC_6 (i := 96) rfl]; exact hB5 6 _ rfl
  have h97 : fPC D t U H 97 := by unfold fPC; rw [cC_20 (i := 97) (n := 12) rfl]; exact hB5 7 _ rfl
  have h98 : fPC D t U H 98 := by unfold fPC; rw [cC_20 (i := 98) (n := 48) rfl]; exact hB5 8 _ rfl
  have h99 : fPC D t U H 99 := by unfold fPC; rw [cC_6 (i := 99) rfl]; exact hB5 9 _ rfl
  have h100 : fPC D t U H 100 := by unfold fPC; rw [cC_20 (i := 100) (n := 12) rfl]; exact hB5 10 _ rfl
  have h101 : fPC D t U H 101 := by unfold fPC; rw [cC_20 (i := 101) (n := 48) rfl]; exact hB5 11 _ rfl
  have h102 : fPC D t U H 102 := by unfold fPC; rw [cC_6 (i := 102) rfl]; exact hB5 12 _ rfl
  have h103 : fPC D t U H 103 := by unfold fPC; rw [cC_20 (i := 103) (n := 12) rfl]; exact hB5 13 _ rfl
  have h104 : fPC D t U H 104 := by unfold fPC; rw [cC_20 (i := 104) (n := 48) rfl]; exact hB5 14 _ rfl
  have h105 : fPC D t U H 105 := by unfold fPC; rw [cC_0 (i := 105) rfl]; exact hB6 0 _ rfl
  have h106 : fPC D t U H 106 := by unfold fPC; rw [cC_20 (i := 106) (n := 120) rfl]; exact hB6 1 _ rfl
  have h107 : fPC D t U H 107 := by unfold fPC; rw [cC_20 (i := 107) (n := 3) rfl]; exact hB6 2 _ rfl
  have h108 : fPC D t U H 108 := by unfold fPC; rw [cC_20 (i := 108) (n := 3) rfl]; exact hB6 3 _ rfl
  have h109 : fPC D t U H 109 := by unfold fPC; rw [cC_20 (i := 109) (n := 3) rfl]; exact hB6 4 _ rfl
  have h110 : fPC D t U H 110 := by
    unfold fPC
    rw [cC_22 (i := 110) (n := 3) rfl]
    have hx := hB6 5 (U 110, .inl (t 2, 3, .inr (.inr (.inr (.inr (fun j => some (if j = 0 then U (105 + 6) else if j = 1 then U (105 + 9) else U (105 + 12)))))))) rfl
    exact Eq.trans hx (congrArg some (vp_cgq (fun j hj => by rcases (show j = 0 ∨ j = 1 ∨ j = 2 by omega) with rfl | rfl | rfl <;> rfl)))
  have h111 : fPC D t U H 111 := by unfold fPC; rw [cC_6 (i := 111) rfl]; exact hB6 6 _ rfl
  have h112 : fPC D t U H 112 := by unfold fPC; rw [cC_20 (i := 112) (n := 12) rfl]; exact hB6 7 _ rfl
  have h113 : fPC D t U H 113 := by unfold fPC; rw [cC_20 (i := 113) (n := 48) rfl]; exact hB6 8 _ rfl
  have h114 : fPC D t U H 114 := by unfold fPC; rw [cC_6 (i := 114) rfl]; exact hB6 9 _ rfl
  have h115 : fPC D t U H 115 := by unfold fPC; rw [cC_20 (i := 115) (n := 12) rfl]; exact hB6 10 _ rfl
  have h116 : fPC D t U H 116 := by unfold fPC; rw [cC_20 (i := 116) (n := 48) rfl]; exact hB6 11 _ rfl
  have h117 : fPC D t U H 117 := by unfold fPC; rw [cC_6 (i := 117) rfl]; exact hB6 12 _ rfl
  have h118 : fPC D t U H 118 := by unfold fPC; rw [cC_20 (i := 118) (n := 12) rfl]; exact hB6 13 _ rfl
  have h119 : fPC D t U H 119 := by unfold fPC; rw [cC_20 (i := 119) (n := 48) rfl]; exact hB6 14 _ rfl
  have h120 : fPC D t U H 120 := by unfold fPC; rw [cC_1 (i := 120) rfl]; exact hB7 0 _ rfl
  have h121 : fPC D t U H 121 := by unfold fPC; rw [cC_20 (i := 121) (n := 12) rfl]; exact hB7 1 _ rfl
  have h122 : fPC D t U H 122 := by unfold fPC; rw [cC_2 (i := 122) rfl]; exact hB8 0 _ rfl
  have h123 : fPC D t U H 123 := by unfold fPC; rw [cC_20 (i := 123) (n := 4) rfl]; exact hB8 1 _ rfl
  have h124 : fPC D t U H 124 := by unfold fPC; rw [cC_20 (i := 124) (n := 4) rfl]; exact hB8 2 _ rfl
  have h125 : fPC D t U H 125 := by unfold fPC; rw [cC_20 (i := 125) (n := 16) rfl]; exact hB8 3 _ rfl
  have h126 : fPC D t U H 126 := by unfold fPC; rw [cC_21 (i := 126) (n := 4) rfl]; exact hB8 4 _ rfl
  have h127 : fPC D t U H 127 := by unfold fPC; rw [cC_20 (i := 127) (n := 4) rfl]; exact hB8 5 _ rfl
  have h128 : fPC D t U H 128 := by unfold fPC; rw [cC_20 (i := 128) (n := 4) rfl]; exact hB8 6 _ rfl
  have h129 : fPC D t U H 129 := by
    unfold fPC
    rw [cC_22 (i := 129) (n := 4) rfl]
    have hx := hB8 7 (U 129, .inl (t 2, 4, .inr (.inr (.inr (.inr (fun j => some (if j = 0 then U (122 + 8) else if j = 1 then U (122 + 11) else if j = 2 then U (122 + 14) else U (122 + 17)))))))) rfl
    exact Eq.trans hx (congrArg some (vp_cgq (fun j hj => by rcases (show j = 0 ∨ j = 1 ∨ j = 2 ∨ j = 3 by omega) with rfl | rfl | rfl | rfl <;> rfl)))
  have h130 : fPC D t U H 130 := by unfold fPC; rw [cC_6 (i := 130) rfl]; exact hB8 8 _ rfl
  have h131 : fPC D t U H 131 := by unfold fPC; rw [cC_20 (i := 131) (n := 12) rfl]; exact hB8 9 _ rfl
  have h132 : fPC D t U H 132 := by unfold fPC; rw [cC_20 (i := 132) (n := 48) rfl]; exact hB8 10 _ rfl
  have h133 : fPC D t U H 133 := by unfold fPC; rw [cC_6 (i := 133) rfl]; exact hB8 11 _ rfl
  have h134 : fPC D t U H 134 := by unfold fPC; rw [cC_20 (i := 134) (n := 12) rfl]; exact hB8 12 _ rfl
  have h135 : fPC D t U H 135 := by unfold fPC; rw [cC_20 (i := 135) (n := 48) rfl]; exact hB8 13 _ rfl
  have h136 : fPC D t U H 136 := by unfold fPC; rw [cC_6 (i := 136) rfl]; exact hB8 14 _ rfl
  have h137 : fPC D t U H 137 := by unfold fPC; rw [cC_20 (i := 137) (n := 12) rfl]; exact hB8 15 _ rfl
  have h138 : fPC D t U H 138 := by unfold fPC; rw [cC_20 (i := 138) (n := 48) rfl]; exact hB8 16 _ rfl
  have h139 : fPC D t U H 139 := by unfold fPC; rw [cC_6 (i := 139) rfl]; exact hB8 17 _ rfl
  have h140 : fPC D t U H 140 := by unfold fPC; rw [cC_20 (i := 140) (n := 12) rfl]; exact hB8 18 _ rfl
  have h141 : fPC D t U H 141 := by unfold fPC; rw [cC_20 (i := 141) (n := 48) rfl]; exact hB8 19 _ rfl
  have f0 : ∀ k, k < 0 → fPC D t U H k := all_z
  have f1 : ∀ k, k < 1 → fPC D t U H k := all_s f0 h0
  have f2 : ∀ k, k < 2 → fPC D t U H k := all_s f1 h1
  have f3 : ∀ k, k < 3 → fPC D t U H k := all_s f2 h2
  have f4 : ∀ k, k < 4 → fPC D t U H k := all_s f3 h3
  have f5 : ∀ k, k < 5 → fPC D t U H k := all_s f4 h4
  have f6 : ∀ k, k < 6 → fPC D t U H k := all_s f5 h5
  have f7 : ∀ k, k < 7 → fPC D t U H k := all_s f6 h6
  have f8 : ∀ k, k < 8 → fPC D t U H k := all_s f7 h7
  have f9 : ∀ k, k < 9 → fPC D t U H k := all_s f8 h8
  have f10 : ∀ k, k < 10 → fPC D t U H k := all_s f9 h9
  have f11 : ∀ k, k < 11 → fPC D t U H k := all_s f10 h10
  have f12 : ∀ k, k < 12 → fPC D t U H k := all_s f11 h11
  have f13 : ∀ k, k < 13 → fPC D t U H k := all_s f12 h12
  have f14 : ∀ k, k < 14 → fPC D t U H k := all_s f13 h13
  have f15 : ∀ k, k < 15 → fPC D t U H k := all_s f14 h14
  have f16 : ∀ k, k < 16 → fPC D t U H k := all_s f15 h15
  have f17 : ∀ k, k < 17 → fPC D t U H k := all_s f16 h16
  have f18 : ∀ k, k < 18 → fPC D t U H k := all_s f17 h17
  have f19 : ∀ k, k < 19 → fPC D t U H k := all_s f18 h18
  have f20 : ∀ k, k < 20 → fPC D t U H k := all_s f19 h19
  have f21 : ∀ k, k < 21 → fPC D t U H k := all_s f20 h20
  have f22 : ∀ k, k < 22 → fPC D t U H k := all_s f21 h21
  have f23 : ∀ k, k < 23 → fPC D t U H k := all_s f22 h22
  have f24 : ∀ k, k < 24 → fPC D t U H k := all_s f23 h23
  have f25 : ∀ k, k < 25 → fPC D t U H k := all_s f24 h24
  have f26 : ∀ k, k < 26 → fPC D t U H k := all_s f25 h25
  have f27 : ∀ k, k < 27 → fPC D t U H k := all_s f26 h26
  have f28 : ∀ k, k < 28 → fPC D t U H k := all_s f27 h27
  have f29 : ∀ k, k < 29 → fPC D t U H k := all_s f28 h28
  have f30 : ∀ k, k < 30 → fPC D t U H k := all_s f29 h29
  have f31 : ∀ k, k < 31 → fPC D t U H k := all_s f30 h30
  have f32 : ∀ k, k < 32 → fPC D t U H k := all_s f31 h31
  have f33 : ∀ k, k < 33 → fPC D t U H k := all_s f32 h32
  have f34 : ∀ k, k < 34 → fPC D t U H k := all_s f33 h33
  have f35 : ∀ k, k < 35 → fPC D t U H k := all_s f34 h34
  have f36 : ∀ k, k < 36 → fPC D t U H k := all_s f35 h35
  have f37 : ∀ k, k < 37 → fPC D t U H k := all_s f36 h36
  have f38 : ∀ k, k < 38 → fPC D t U H k := all_s f37 h37
  have f39 : ∀ k, k < 39 → fPC D t U H k := all_s f38 h38
  have f40 : ∀ k, k < 40 → fPC D t U H k := all_s f39 h39
  have f41 : ∀ k, k < 41 → fPC D t U H k := all_s f40 h40
  have f42 : ∀ k, k < 42 → fPC D t U H k := all_s f41 h41
  have f43 : ∀ k, k < 43 → fPC D t U H k := all_s f42 h42
  have f44 : ∀ k, k < 44 → fPC D t U H k := all_s f43 h43
  have f45 : ∀ k, k < 45 → fPC D t U H k := all_s f44 h44
  have f46 : ∀ k, k < 46 → fPC D t U H k := all_s f45 h45
  have f47 : ∀ k, k < 47 → fPC D t U H k := all_s f46 h46
  have f48 : ∀ k, k < 48 → fPC D t U H k := all_s f47 h47
  have f49 : ∀ k, k < 49 → fPC D t U H k := all_s f48 h48
  have f50 : ∀ k, k < 50 → fPC D t U H k := all_s f49 h49
  have f51 : ∀ k, k < 51 → fPC D t U H k := all_s f50 h50
  have f52 : ∀ k, k < 52 → fPC D t U H k := all_s f51 h51
  have f53 : ∀ k, k < 53 → fPC D t U H k := all_s f52 h52
  have f54 : ∀ k, k < 54 → fPC D t U H k := all_s f53 h53
  have f55 : ∀ k, k < 55 → fPC D t U H k := all_s f54 h54
  have f56 : ∀ k, k < 56 → fPC D t U H k := all_s f55 h55
  have f57 : ∀ k, k < 57 → fPC D t U H k := all_s f56 h56
  have f58 : ∀ k, k < 58 → fPC D t U H k := all_s f57 h57
  have f59 : ∀ k, k < 59 → fPC D t U H k := all_s f58 h58
  have f60 : ∀ k, k < 60 → fPC D t U H k := all_s f59 h59
  have f61 : ∀ k, k < 61 → fPC D t U H k := all_s f60 h60
  have f62 : ∀ k, k < 62 → fPC D t U H k := all_s f61 h61
  have f63 : ∀ k, k < 63 → fPC D t U H k := all_s f62 h62
  have f64 : ∀ k, k < 64 → fPC D t U H k := all_s f63 h63
  have f65 : ∀ k, k < 65 → fPC D t U H k := all_s f64 h64
  have f66 : ∀ k, k < 66 → fPC D t U H k := all_s f65 h65
  have f67 : ∀ k, k < 67 → fPC D t U H k := all_s f66 h66
  have f68 : ∀ k, k < 68 → fPC D t U H k := all_s f67 h67
  have f69 : ∀ k, k < 69 → fPC D t U H k := all_s f68 h68
  have f70 : ∀ k, k < 70 → fPC D t U H k := all_s f69 h69
  have f71 : ∀ k, k < 71 → fPC D t U H k := all_s f70 h70
  have f72 : ∀ k, k < 72 → fPC D t U H k := all_s f71 h71
  have f73 : ∀ k, k < 73 → fPC D t U H k := all_s f72 h72
  have f74 : ∀ k, k < 74 → fPC D t U H k := all_s f73 h73
  have f75 : ∀ k, k < 75 → fPC D t U H k := all_s f74 h74
  have f76 : ∀ k, k < 76 → fPC D t U H k := all_s f75 h75
  have f77 : ∀ k, k < 77 → fPC D t U H k := all_s f76 h76
  have f78 : ∀ k, k < 78 → fPC D t U H k := all_s f77 h77
  have f79 : ∀ k, k < 79 → fPC D t U H k := all_s f78 h78
  have f80 : ∀ k, k < 80 → fPC D t U H k := all_s f79 h79
  have f81 : ∀ k, k < 81 → fPC D t U H k := all_s f80 h80
  have f82 : ∀ k, k < 82 → fPC D t U H k := all_s f81 h81
  have f83 : ∀ k, k < 83 → fPC D t U H k := all_s f82 h82
  have f84 : ∀ k, k < 84 → fPC D t U H k := all_s f83 h83
  have f85 : ∀ k, k < 85 → fPC D t U H k := all_s f84 h84
  have f86 : ∀ k, k < 86 → fPC D t U H k := all_s f85 h85
  have f87 : ∀ k, k < 87 → fPC D t U H k := all_s f86 h86
  have f88 : ∀ k, k < 88 → fPC D t U H k := all_s f87 h87
  have f89 : ∀ k, k < 89 → fPC D t U H k := all_s f88 h88
  have f90 : ∀ k, k < 90 → fPC D t U H k := all_s f89 h89
  have f91 : ∀ k, k < 91 → fPC D t U H k := all_s f90 h90
  have f92 : ∀ k, k < 92 → fPC D t U H k := all_s f91 h91
  have f93 : ∀ k, k < 93 → fPC D t U H k := all_s f92 h92
  have f94 : ∀ k, k < 94 → fPC D t U H k := all_s f93 h93
  have f95 : ∀ k, k < 95 → fPC D t U H k := all_s f94 h94
  have f96 : ∀ k, k < 96 → fPC D t U H k := all_s f95 h95
  have f97 : ∀ k, k < 97 → fPC D t U H k := all_s f96 h96
  have f98 : ∀ k, k < 98 → fPC D t U H k := all_s f97 h97
  have f99 : ∀ k, k < 99 → fPC D t U H k := all_s f98 h98
  have f100 : ∀ k, k < 100 → fPC D t U H k := all_s f99 h99
  have f101 : ∀ k, k < 101 → fPC D t U H k := all_s f100 h100
  have f102 : ∀ k, k < 102 → fPC D t U H k := all_s f101 h101
  have f103 : ∀ k, k < 103 → fPC D t U H k := all_s f102 h102
  have f104 : ∀ k, k < 104 → fPC D t U H k := all_s f103 h103
  have f105 : ∀ k, k < 105 → fPC D t U H k := all_s f104 h104
  have f106 : ∀ k, k < 106 → fPC D t U H k := all_s f105 h105
  have f107 : ∀ k, k < 107 → fPC D t U H k := all_s f106 h106
  have f108 : ∀ k, k < 108 → fPC D t U H k := all_s f107 h107
  have f109 : ∀ k, k < 109 → fPC D t U H k := all_s f108 h108
  have f110 : ∀ k, k < 110 → fPC D t U H k := all_s f109 h109
  have f111 : ∀ k, k < 111 → fPC D t U H k := all_s f110 h110
  have f112 : ∀ k, k < 112 → fPC D t U H k := all_s f111 h111
  have f113 : ∀ k, k < 113 → fPC D t U H k := all_s f112 h112
  have f114 : ∀ k, k < 114 → fPC D t U H k := all_s f113 h113
  have f115 : ∀ k, k < 115 → fPC D t U H k := all_s f114 h114
  have f116 : ∀ k, k < 116 → fPC D t U H k := all_s f115 h115
  have f117 : ∀ k, k < 117 → fPC D t U H k := all_s f116 h116
  have f118 : ∀ k, k < 118 → fPC D t U H k := all_s f117 h117
  have f119 : ∀ k, k < 119 → fPC D t U H k := all_s f118 h118
  have f120 : ∀ k, k < 120 → fPC D t U H k := all_s f119 h119
  have f121 : ∀ k, k < 121 → fPC D t U H k := all_s f120 h120
  have f122 : ∀ k, k < 122 → fPC D t U H k := all_s f121 h121
  have f123 : ∀ k, k < 123 → fPC D t U H k := all_s f122 h122
  have f124 : ∀ k, k < 124 → fPC D t U H k := all_s f123 h123
  have f125 : ∀ k, k < 125 → fPC D t U H k := all_s f124 h124
  have f126 : ∀ k, k < 126 → fPC D t U H k := all_s f125 h125
  have f127 : ∀ k, k < 127 → fPC D t U H k := all_s f126 h126
  have f128 : ∀ k, k < 128 → fPC D t U H k := all_s f127 h127
  have f129 : ∀ k, k < 129 → fPC D t U H k := all_s f128 h128
  have f130 : ∀ k, k < 130 → fPC D t U H k := all_s f129 h129
  have f131 : ∀ k, k < 131 → fPC D t U H k := all_s f130 h130
  have f132 : ∀ k, k < 132 → fPC D t U H k := all_s f131 h131
  have f133 : ∀ k, k < 133 → fPC D t U H k := all_s f132 h132
  have f134 : ∀ k, k < 134 → fPC D t U H k := all_s f133 h133
  have f135 : ∀ k, k < 135 → fPC D t U H k := all_s f134 h134
  have f136 : ∀ k, k < 136 → fPC D t U H k := all_s f135 h135
  have f137 : ∀ k, k < 137 → fPC D t U H k := all_s f136 h136
  have f138 : ∀ k, k < 138 → fPC D t U H k := all_s f137 h137
  have f139 : ∀ k, k < 139 → fPC D t U H k := all_s f138 h138
  have f140 : ∀ k, k < 140 → fPC D t U H k := all_s f139 h139
  have f141 : ∀ k, k < 141 → fPC D t U H k := all_s f140 h140
  have f142 : ∀ k, k < 142 → fPC D t U H k := all_s f141 h141
  intro k q hq
  obtain ⟨hk, rfl⟩ := wl_no hq
  exact f142 k hk
set_option maxHeartbeats 4000000 in
set_option maxRecDepth 100000 in
theorem wX10_ad {X : XT} {U : Nat → Nat} : (wX10 X (U 0) U).map (fun q => q.1) = (List.range 142).map U := rfl
theorem ad_at {ws : va_W} {U : Nat → Nat} {n i : Nat} (h : ws.map (fun q => q.1) = (List.range n).map U) (hi : i < n) : ∃ q, ws[i]? = some q ∧ q.1 = U i := by
  have h1 : (ws.map (fun q => q.1))[i]? = some (U i) := by rw [h]; simp [hi]
  rw [List.getElem?_map] at h1
  cases h2 : ws[i]? with
  | none => rw [h2] at h1; cases h1
  | some q => rw [h2] at h1; exact ⟨q, rfl, Option.some.inj h1⟩
theorem ad_inj {ws : va_W} {U : Nat → Nat} {n : Nat} {A : Nat → Prop} (h : ws.map (fun q => q.1) = (List.range n).map U) (hD : va_D A ws) : ∀ i j, i < n → j < n → U i = U j → i = j := by
  intro i j hi hj e
  obtain ⟨p, h1, h2⟩ := ad_at h hi
  obtain ⟨q, h3, h4⟩ := ad_at h hj
  exact hD.1 i j p q h1 h3 (by rw [h2, h4, e])
theorem ad_A {ws : va_W} {U : Nat → Nat} {n : Nat} {A : Nat → Prop} (h : ws.map (fun q => q.1) = (List.range n).map U) (hD : va_D A ws) : ∀ i, i < n → A (U i) := by
  intro i hi
  obtain ⟨p, h1, h2⟩ := ad_at h hi
  rw [← h2]
  exact hD.2 i p h1
