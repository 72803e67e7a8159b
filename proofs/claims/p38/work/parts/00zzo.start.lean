/-! ===== the start: both ===== -/
def C0 : Mem := fun a i => if a = 3 then nI (6 + 7 * i) else if a = 5 then 60 else if a = 49 then 1 else if a = 50 then 20 else if a = 51 then 12 else if a = 59 then 10 else if a = 80 then (if i = 13 then 40 else 0) else if a = 90 then (if i = 8 then -1 else 0) else if a = 105 then (if i = 8 then -1 else 0) else 0
def R0 : Mem := fun a i => if a = 6 then 1 else if a = 8 then 20 else if a = 9 then 12 else if a = 10 then 60 else if a = 15 then fee i else if a = 16 then freight i else if a = 18 then 10 else if a = 0 then (if i = 37 then 40 else if i = 79 then -1 else 0) else 0
section Start
theorem C0z {a : Nat} (h : a ≠ 3 ∧ a ≠ 5 ∧ a ≠ 49 ∧ a ≠ 50 ∧ a ≠ 51 ∧ a ≠ 59 ∧ a ≠ 80 ∧ a ≠ 90 ∧ a ≠ 105) : C0 a = fun _ => 0 := by
  obtain ⟨h1, h2, h3, h4, h5, h6, h7, h8, h9⟩ := h
  funext i
  simp only [C0, h1, h2, h3, h4, h5, h6, h7, h8, h9, if_false]
theorem R0z {a : Nat} (h : a ≠ 6 ∧ a ≠ 8 ∧ a ≠ 9 ∧ a ≠ 10 ∧ a ≠ 15 ∧ a ≠ 16 ∧ a ≠ 18 ∧ a ≠ 0) : R0 a = fun _ => 0 := by
  obtain ⟨h1, h2, h3, h4, h5, h6, h7, h8⟩ := h
  funext i
  simp only [R0, h1, h2, h3, h4, h5, h6, h7, h8, if_false]
theorem R00 {j : Nat} (h : j ≠ 37 ∧ j ≠ 79) : R0 0 j = 0 := by
  obtain ⟨h1, h2⟩ := h
  simp [R0, h1, h2]
theorem C80 {j : Nat} (h : j ≠ 13) : C0 80 j = 0 := by simp [C0, h]
theorem C90 {j : Nat} (h : j ≠ 8) : C0 90 j = 0 := by simp [C0, h]
theorem start_rel : REL C0 R0 0 0 := by
  have z0 : (0 : Int32) = nI 0 := rfl
  have hK : KR C0 R0 0 0 := by
    refine ⟨⟨by rw [C0z (by omega)]; rfl, by rw [R00 (by omega)]; rfl, by rw [C0z (by omega)]; rfl, by rw [R00 (by omega)]; rfl⟩, ⟨?_, ?_, ?_, ?_, ?_, ?_, ?_, ?_, ?_⟩, ⟨?_, ?_, ?_, ?_, ?_⟩, [], ⟨fun j => 6 + 7 * j, ⟨fun j hj => ⟨j, hj, rfl⟩, (fun i j _ _ (h : 6 + 7 * i = 6 + 7 * j) => by omega), fun j _ => rfl⟩, ?_, by simp, fun j E h => by simp at h⟩, ⟨?_, by simp, fun j E h => by simp at h⟩, fun E h => by cases h⟩
    · rfl
    · rw [C0z (by omega), R0z (by omega)]
    · rfl
    · rfl
    · rfl
    · rw [C0z (by omega), R0z (by omega)]
    · rw [C0z (by omega), R0z (by omega)]
    · rw [C0z (by omega), R0z (by omega)]
    · rw [C0z (by omega), R0z (by omega)]
    · exact fun j _ => ⟨1, by omega, rfl⟩
    · exact fun j _ => ⟨0, by omega, by rw [R0z (by omega)]; rfl⟩
    · exact fun j _ => ⟨12, by omega, rfl⟩
    · rfl
    · rfl
    · rw [C0z (by omega)]; rfl
    · rw [R00 (by omega)]; rfl
  have hRV : ∀ f g, RV f g [] := fun f g i r h => by simp at h
  refine ⟨fun _ => [], 0, 0, 0, 0, ⟨hK, fun s hs => ⟨⟨by rw [C0z (by omega)]; rfl, by simp, hRV _ _⟩, ⟨by rw [R0z (by omega)]; rfl, by simp, hRV _ _⟩⟩, fun s hs => ⟨fun i j r r' h => by simp at h, (fun r h => by cases h), (fun _ r h => by cases h), ⟨0, by omega, by rw [R0z (by omega)]; rfl, (fun _ r h => by cases h)⟩, 0, Nat.le_refl _, by rw [R0z (by omega)]; rfl⟩, by rw [C0z (by omega), R0z (by omega)], by rw [C0z (by omega), R0z (by omega)], by rw [C0z (by omega), R00 (by omega)]⟩, ⟨⟨?_, ?_, ?_, ?_, ?_, ?_⟩, ⟨?_, ?_, ?_, ?_, ?_, ?_, ?_⟩, fun l _ => ?_⟩, ⟨⟨?_, by omega⟩, ⟨?_, by omega⟩, ⟨?_, by omega⟩, ⟨?_, by omega⟩, ⟨40, by omega, by omega, rfl⟩, Or.inl ?_, (fun i h => by omega), (fun i h => by omega), (fun i h => by omega), (fun i h => by omega)⟩, ⟨rfl, fun s _ => ⟨10, by omega, rfl⟩⟩, fun s k hs hk => ⟨false, ?_, ?_⟩, by rw [C0z (by omega), R0z (by omega)], ⟨⟨0, 0, by omega, by omega, ?_, ?_, ?_, ?_, (fun x c h => by omega)⟩, ?_, rfl, ?_, ?_, ?_, 0, by omega, ?_, ?_, (fun x h => by omega)⟩, ⟨0, by omega, ?_, ?_, (fun i h => by omega)⟩⟩
  · rw [C80 (by omega), R00 (by omega)]
  · rw [C80 (by omega), R00 (by omega)]
  · rw [C80 (by omega), R00 (by omega)]
  · rw [C80 (by omega), R00 (by omega)]
  · rfl
  · rw [C80 (by omega), R00 (by omega)]
  · rw [C0z (by omega), R0z (by omega)]
  · rw [C0z (by omega), R0z (by omega)]
  · rw [C0z (by omega), R0z (by omega)]
  · rw [C0z (by omega), R0z (by omega)]
  · rw [C0z (by omega), R0z (by omega)]
  · rw [C0z (by omega), R0z (by omega)]
  · rw [C0z (by omega), R0z (by omega)]
  · rw [C0z (a := 82) (by omega), C0z (a := 83) (by omega), R0z (a := 20) (by omega), R0z (a := 21) (by omega), R0z (a := 22) (by omega), R0z (a := 23) (by omega)]
    exact ⟨rfl, rfl, rfl, rfl⟩
  · rw [R00 (by omega)]; rfl
  · rw [R00 (by omega)]; rfl
  · rw [R00 (by omega)]; rfl
  · rw [R00 (by omega)]; rfl
  · rw [R00 (by omega)]
  · rw [C0z (by omega)]; rfl
  · rw [R0z (by omega)]
    have h3 : k = 0 ∨ k = 1 ∨ k = 2 := by omega
    show ((0 : Int32) >>> (nI k &&& nI 31) &&& nI 1 = nI 1) ↔ false = true
    rcases h3 with rfl | rfl | rfl <;> decide
  · rw [C90 (by omega)]; rfl
  · rw [R00 (by omega)]; rfl
  · rw [C90 (by omega)]; rfl
  · rw [R00 (by omega)]; rfl
  · rw [C90 (by omega), R00 (by omega)]
  · rw [C90 (by omega), R00 (by omega)]
  · rw [C90 (by omega), R00 (by omega)]
  · rw [C90 (by omega), R00 (by omega)]
  · rw [C90 (by omega)]; rfl
  · rw [R00 (by omega)]; rfl
  · rw [C0z (by omega)]; rfl
  · rw [R00 (by omega)]; rfl
end Start
