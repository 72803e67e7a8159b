/-! ===== the words of the functions that the methods are ===== -/
def inb (i : Int32) (n : Nat) : Bool := decide (0 ≤ i) && decide (i.toNatClampNeg < n)
def isb (x : Int32) : Bool := decide (x = 0) || decide (x = 1)
def nm {α β : Type} (v : α) (k : α → β) : β := k v
def grd {β : Type} (b : Bool) (k : Option β) : Option β := if b = true then k else none
def bd {α β : Type} (x : Option α) (k : α → Option β) : Option β := match x with | some a => k a | none => none
def bm {α μ β : Type} (x : Option (α × μ)) (k : α → μ → Option β) : Option β := match x with | some a => k a.1 a.2 | none => none
def jn {τ β : Type} (r : τ) (T : τ → β) : β := T r
theorem grd_e {β : Type} {b : Bool} {k : Option β} {r : β} (h : grd b k = some r) : b = true ∧ k = some r := by
  unfold grd at h
  split at h
  · exact ⟨by assumption, h⟩
  · cases h
theorem bd_e {α β : Type} {x : Option α} {k : α → Option β} {r : β} (h : bd x k = some r) : ∃ a, x = some a ∧ k a = some r := by
  cases x with
  | some a => exact ⟨a, rfl, h⟩
  | none => cases h
theorem bm_e {α μ β : Type} {x : Option (α × μ)} {k : α → μ → Option β} {r : β} (h : bm x k = some r) : ∃ a m, x = some (a, m) ∧ k a m = some r := by
  cases x with
  | some a => exact ⟨a.1, a.2, rfl, h⟩
  | none => cases h
theorem it_e {c : Prop} [Decidable c] {β : Type} {A B : β} {r : β} (h : (if c then A else B) = r) (hc : c) : A = r := by rw [if_pos hc] at h; exact h
theorem ie_e {c : Prop} [Decidable c] {β : Type} {A B : β} {r : β} (h : (if c then A else B) = r) (hc : ¬ c) : B = r := by rw [if_neg hc] at h; exact h
theorem jn_e {τ β : Type} {r : τ} {T : τ → β} {b : β} {G : Prop} (hf : jn r T = b) (P : τ → Prop) (h1 : P r) (h2 : ∀ k, P k → T k = b → G) : G := h2 r h1 hf
