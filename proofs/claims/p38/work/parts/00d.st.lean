/-! ===== the static functions of both ===== -/
def okc (v : Int32) : Prop := v = 5000 ∨ v = 5001 ∨ (-999 ≤ v ∧ v ≤ 999)
theorem st_num {v : Int32} (h : okc v) : f_X11_isNumber v = f_X10_isNumber v := by
  simp only [f_X11_isNumber, f_X11_in, f_X10_isNumber, okc] at *
  grind
theorem st_hold {k n v : Int32} (h : okc v) (hk : k = 0 → -999 ≤ n ∧ n ≤ 999) : f_X11_holds k n v = f_X10_holdsFor k n v := by
  simp only [f_X11_holds, f_X10_holdsFor, f_X11_isNumber, f_X11_in, f_X10_isNumber, okc] at *
  grind
theorem st_can : f_X11_canDo = f_X10_canDo := rfl
theorem st_fol {a b c d : Int32} : f_X11_follows a b c d = f_X10_follows a b c d := by
  simp only [f_X11_follows, f_X10_follows, jn_d]
  grind
theorem st_store : f_X11_storeOf = f_X10_storeOf := rfl
theorem st_in : f_X11_in = f_X10_isIn := rfl
theorem sto {s : Nat} (h : s < 6) : f_X10_storeOf (nI s) = nI (s / 2) := by
  simp only [f_X10_storeOf, lit]
  rw [pk_div (by omega) (by omega) (by omega)]
theorem lt6 {P : Nat → Prop} (h0 : P 0) (h1 : P 1) (h2 : P 2) (h3 : P 3) (h4 : P 4) (h5 : P 5) {s : Nat} (h : s < 6) : P s := by
  have : s = 0 ∨ s = 1 ∨ s = 2 ∨ s = 3 ∨ s = 4 ∨ s = 5 := by omega
  rcases this with rfl | rfl | rfl | rfl | rfl | rfl <;> assumption
theorem st_fit {s c : Nat} {v : Int32} (hs : s < 6) (hc : c < 4) : f_X11_isCell (nI s) (nI c) v = f_X10_cellFits (nI (s / 2)) (nI c) v := by
  have h2 : c = 0 ∨ c = 1 ∨ c = 2 ∨ c = 3 := by omega
  revert hs
  revert s
  intro s hs
  refine lt6 (P := fun s => f_X11_isCell (nI s) (nI c) v = f_X10_cellFits (nI (s / 2)) (nI c) v) ?_ ?_ ?_ ?_ ?_ ?_ hs <;> rcases h2 with rfl | rfl | rfl | rfl <;>
    simp (decide := true) only [f_X11_isCell, f_X10_cellFits, f_X11_isColumn, f_X11_storeOf, f_X10_columnsIn, f_X10_isKeyColumn, f_X11_in, f_X10_isIn, f_X11_isNumber, jn_d, nm_d] <;> grind
