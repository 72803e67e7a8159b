/-! ===== the law's memory: a long is two ints; what a call of the class leaves ===== -/
def mkL (h l : Int32) : Int64 := Int64.ofBitVec (h.toBitVec ++ l.toBitVec)
def hiL (x : Int64) : Int32 := Int32.ofBitVec (x.toBitVec.extractLsb' 32 32)
def loL (x : Int64) : Int32 := Int32.ofBitVec (x.toBitVec.extractLsb' 0 32)
theorem mkL_bv (b : BitVec 64) : b.extractLsb' 32 32 ++ b.extractLsb' 0 32 = b := by
  apply BitVec.eq_of_getLsbD_eq
  intro i hi
  rw [BitVec.getLsbD_append]
  by_cases h : i < 32
  · simp [h]
  · simp only [h, if_false, BitVec.getLsbD_extractLsb']
    rw [show 32 + (i - 32) = i by omega]
    simp
    omega
theorem mkL_hl (x : Int64) : mkL (hiL x) (loL x) = x := by
  unfold mkL hiL loL
  rw [Int32.toBitVec_ofBitVec, Int32.toBitVec_ofBitVec, mkL_bv, Int64.ofBitVec_toBitVec]
def lg (f : Nat → Int32) (j : Nat) : Int64 := mkL (f (2 * j)) (f (2 * j + 1))
def updL (f : Nat → Int32) (j : Nat) (x : Int64) : Nat → Int32 := upd (upd f (2 * j) (hiL x)) (2 * j + 1) (loL x)
theorem lg_updL (f : Nat → Int32) (j : Nat) (x : Int64) : lg (updL f j x) = vp_updL (lg f) j x := by
  funext k
  unfold lg updL vp_updL upd
  by_cases h : k = j
  · subst h
    rw [if_pos rfl, if_neg (by omega), if_pos rfl, if_pos rfl, mkL_hl]
  · rw [if_neg h, if_neg (by omega), if_neg (by omega), if_neg (by omega), if_neg (by omega)]
theorem lg_0 : lg (fun _ => 0) = fun _ => 0 := by
  funext k
  show Int64.ofBitVec ((0 : Int32).toBitVec ++ (0 : Int32).toBitVec) = 0
  decide
def upL (M : Mem) (i j : Nat) (v : Int64) : Mem := row M i (updL (M i) j v)
def mg (M N : Mem) : Mem := fun a => if a < 142 then N a else M a
theorem mg_self (M : Mem) : mg M M = M := by
  funext a
  unfold mg
  split <;> rfl
def nz (y : Int32) : Bool := !decide (y = 0)
theorem nz_e {y : Int32} (h : nz y = true) : ¬ y = 0 := by simpa [nz] using h
def ek (k : Nat) : Int32 := if k = 1 then -7100 else if k = 2 then -7200 else -7300
def wr (cs : List Nat) (x : Option XR) (M : Mem) : Option (Int32 × Mem) := match x with
  | some (0, v, N) => some (v, mg M N)
  | some (n + 1, _, N) => if n + 1 ∈ cs then some (ek (n + 1), mg M N) else none
  | none => none
def wrz (cs : List Nat) (x : Option XR) (M : Mem) : Option (Int32 × Mem) := match x with
  | some (0, v, N) => some (if v = 0 then 0 else 1, mg M N)
  | some (n + 1, _, N) => if n + 1 ∈ cs then some (ek (n + 1), mg M N) else none
  | none => none
theorem wr_e {cs : List Nat} {x : Option XR} {M : Mem} {rs : Int32 × Mem} (h : wr cs x M = some rs) : ∃ r : XR, x = some r ∧ rs.2 = mg M r.2.2 ∧ ((r.1 = 0 ∧ rs.1 = r.2.1) ∨ (r.1 ≠ 0 ∧ r.1 ∈ cs ∧ rs.1 = ek r.1)) := by
  match x, h with
  | some (0, v, N), h => cases h; exact ⟨_, rfl, rfl, Or.inl ⟨rfl, rfl⟩⟩
  | some (n + 1, v, N), h =>
    unfold wr at h
    dsimp only at h
    by_cases hn : n + 1 ∈ cs
    · rw [if_pos hn] at h
      cases h
      exact ⟨_, rfl, rfl, Or.inr ⟨by simp, hn, rfl⟩⟩
    · rw [if_neg hn] at h
      cases h
  | none, h => cases h
theorem wrz_e {cs : List Nat} {x : Option XR} {M : Mem} {rs : Int32 × Mem} (h : wrz cs x M = some rs) : ∃ r : XR, x = some r ∧ rs.2 = mg M r.2.2 ∧ ((r.1 = 0 ∧ rs.1 = if r.2.1 = 0 then 0 else 1) ∨ (r.1 ≠ 0 ∧ r.1 ∈ cs ∧ rs.1 = ek r.1)) := by
  match x, h with
  | some (0, v, N), h => cases h; exact ⟨_, rfl, rfl, Or.inl ⟨rfl, rfl⟩⟩
  | some (n + 1, v, N), h =>
    unfold wrz at h
    dsimp only at h
    by_cases hn : n + 1 ∈ cs
    · rw [if_pos hn] at h
      cases h
      exact ⟨_, rfl, rfl, Or.inr ⟨by simp, hn, rfl⟩⟩
    · rw [if_neg hn] at h
      cases h
  | none, h => cases h
/-- the entries' numbers are numbers of the class's cells -/
def e3 (M : Mem) : Bool := (List.range 6).all (fun j => decide ((M 3 j).toNatClampNeg < 142))
theorem e3_e {M : Mem} (h : e3 M = true) {j : Nat} (hj : j < 6) : (M 3 j).toNatClampNeg < 142 := by
  unfold e3 at h
  rw [List.all_eq_true] at h
  simpa using h j (List.mem_range.mpr hj)
