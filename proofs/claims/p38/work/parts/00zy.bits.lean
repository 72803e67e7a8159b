/-! ===== bits of a word ===== -/
section Bits
theorem bv1 {y : BitVec 32} : (y &&& 1#32 = 1#32) ↔ y.getLsbD 0 = true := by
  rw [BitVec.and_one_eq_setWidth_ofBool_getLsbD]
  cases y.getLsbD 0 <;> decide
theorem bitS {x : Int32} {k : Nat} (hk : k < 3) : ((x >>> (nI k &&& nI 31)) &&& nI 1 = nI 1) ↔ x.toBitVec.getLsbD k = true := by
  have h : ∃ s : Nat, s = k ∧ (x >>> (nI k &&& nI 31)).toBitVec = x.toBitVec.sshiftRight s := by
    have h3 : k = 0 ∨ k = 1 ∨ k = 2 := by omega
    rcases h3 with rfl | rfl | rfl
    · exact ⟨_, rfl, by rw [Int32.toBitVec_shiftRight]; rfl⟩
    · exact ⟨_, rfl, by rw [Int32.toBitVec_shiftRight]; rfl⟩
    · exact ⟨_, rfl, by rw [Int32.toBitVec_shiftRight]; rfl⟩
  obtain ⟨s, rfl, h⟩ := h
  rw [← Int32.toBitVec_inj, Int32.toBitVec_and, h, show (nI 1).toBitVec = 1#32 from by decide, bv1, BitVec.getLsbD_sshiftRight]
  have : s + 0 < 32 := by omega
  simp [this]
  omega
theorem bitO {x : Int32} {k j : Nat} (hk : k < 3) (hj : j < 3) : (x ||| (1 <<< (nI k &&& 31))).toBitVec.getLsbD j = (x.toBitVec.getLsbD j || decide (j = k)) := by
  rw [Int32.toBitVec_or, BitVec.getLsbD_or]
  congr 1
  have h3 : k = 0 ∨ k = 1 ∨ k = 2 := by omega
  have h4 : j = 0 ∨ j = 1 ∨ j = 2 := by omega
  rcases h3 with rfl | rfl | rfl <;> rcases h4 with rfl | rfl | rfl <;> decide
theorem bitA {x : Int32} {k j : Nat} (hk : k < 3) (hj : j < 3) : (x &&& ((1 <<< (nI k &&& 31)) ^^^ (-1))).toBitVec.getLsbD j = (x.toBitVec.getLsbD j && !decide (j = k)) := by
  rw [Int32.toBitVec_and, BitVec.getLsbD_and]
  congr 1
  have h3 : k = 0 ∨ k = 1 ∨ k = 2 := by omega
  have h4 : j = 0 ∨ j = 1 ∨ j = 2 := by omega
  rcases h3 with rfl | rfl | rfl <;> rcases h4 with rfl | rfl | rfl <;> decide
end Bits
