/-! ===== the words of the functions that the methods are ===== -/
def inb (i : Int32) (n : Nat) : Bool := decide (0 ≤ i) && decide (i.toNatClampNeg < n)
def isb (x : Int32) : Bool := decide (x = 0) || decide (x = 1)
def nm {α β : Type} (v : α) (k : α → β) : β := k v
def grd {β : Type} (b : Bool) (k : Option β) : Option β := if b = true then k else none
def bd {α β : Type} (x : Option α) (k : α → Option β) : Option β := match x with | some a => k a | none => none
def bm {α μ β : Type} (x : Option (α × μ)) (k : α → μ → Option β) : Option β := match x with | some a => k a.1 a.2 | none => none
def jn {τ β : Type} (r : τ) (T : τ → β) : β := T r
theorem grd_e {β : Type} {b : Bool} {k : Option β} {r : β} (h : grd b k = some r) : b = true ∧ k = some r := by
  unfold grd at h
  split at h
  · exact ⟨by assumption, h⟩
  · cases h
theorem bd_e {α β : Type} {x : Option α} {k : α → Option β} {r : β} (h : bd x k = some r) : ∃ a, x = some a ∧ k a = some r := by
  cases x with
  | some a => exact ⟨a, rfl, h⟩
  | none => cases h
theorem bm_e {α μ β : Type} {x : Option (α × μ)} {k : α → μ → Option β} {r : β} (h : bm x k = some r) : ∃ a m, x = some (a, m) ∧ k a m = some r := by
  cases x with
  | some a => exact ⟨a.1, a.2, rfl, h⟩
  | none => cases h
theorem it_e {c : Prop} [Decidable c] {β : Type} {A B : β} {r : β} (h : (if c then A else B) = r) (hc : c) : A = r := by rw [if_pos hc] at h; exact h
theorem ie_e {c : Prop} [Decidable c] {β : Type} {A B : β} {r : β} (h : (if c then A else B) = r) (hc : ¬ c) : B = r := by rw [if_neg hc] at h; exact h
theorem jn_e {τ β : Type} {r : τ} {T : τ → β} {b : β} {G : Prop} (hf : jn r T = b) (P : τ → Prop) (h1 : P r) (h2 : ∀ k, P k → T k = b → G) : G := h2 r h1 hf
abbrev Mem : Type := Nat → Nat → Int32
def row (M : Mem) (i : Nat) (f : Nat → Int32) : Mem := fun a => if a = i then f else M a
def up (M : Mem) (i j : Nat) (v : Int32) : Mem := row M i (upd (M i) j v)
theorem row_s {M : Mem} {i : Nat} {f : Nat → Int32} : row M i f i = f := by simp [row]
theorem row_n {M : Mem} {i a : Nat} {f : Nat → Int32} (h : a ≠ i) : row M i f a = M a := by simp [row, h]
def fee (j : Nat) : Int32 := if j = 0 then 5 else if j = 1 then 1 else 3
def freight (j : Nat) : Int32 := if j = 0 then 1 else if j = 1 then 1 else 2
def kcl : List (Nat × Nat) := [(10, 0), (9, 0), (3, 0), (23, 6), (20, 3), (20, 3), (5, 0), (6, 0), (20, 12), (20, 48), (20, 4), (20, 4), (20, 4), (5, 0), (6, 0), (20, 12), (20, 48), (20, 4), (20, 4), (20, 4), (5, 0), (6, 0), (20, 12), (20, 48), (20, 4), (20, 4), (20, 4), (5, 0), (6, 0), (20, 12), (20, 48), (20, 4), (20, 4), (20, 4), (5, 0), (6, 0), (20, 12), (20, 48), (20, 4), (20, 4), (20, 4), (5, 0), (6, 0), (20, 12), (20, 48), (20, 4), (20, 4), (20, 4), (8, 0), (20, 3), (20, 3), (20, 3), (20, 3), (21, 3), (21, 18), (20, 3), (20, 3), (7, 0), (20, 6), (20, 6), (20, 6), (22, 6), (6, 0), (20, 12), (20, 48), (6, 0), (20, 12), (20, 48), (6, 0), (20, 12), (20, 48), (6, 0), (20, 12), (20, 48), (6, 0), (20, 12), (20, 48), (6, 0), (20, 12), (20, 48), (4, 0), (20, 3), (20, 6), (20, 6), (20, 4), (20, 4), (20, 4), (20, 4), (20, 3), (20, 3), (0, 0), (20, 120), (20, 3), (20, 3), (20, 3), (22, 3), (6, 0), (20, 12), (20, 48), (6, 0), (20, 12), (20, 48), (6, 0), (20, 12), (20, 48), (0, 0), (20, 120), (20, 3), (20, 3), (20, 3), (22, 3), (6, 0), (20, 12), (20, 48), (6, 0), (20, 12), (20, 48), (6, 0), (20, 12), (20, 48), (1, 0), (20, 12), (2, 0), (20, 4), (20, 4), (20, 16), (21, 4), (20, 4), (20, 4), (22, 4), (6, 0), (20, 12), (20, 48), (6, 0), (20, 12), (20, 48), (6, 0), (20, 12), (20, 48), (6, 0), (20, 12), (20, 48)]
def kC (i : Nat) : Nat × Nat := kcl.getD i (99, 0)
def kb (k i : Nat) : Bool := decide (kC i = (k, 0))
def om {α β : Type} (o : Option α) (ks : α → β) (kn : β) : β := match o with | some a => ks a | none => kn
abbrev XR : Type := Nat × Int32 × Mem
def bx {β : Type} (x : Option XR) (k : Int32 → Mem → Option (Nat × Int32 × β)) (er : Nat → Mem → Option (Nat × Int32 × β)) : Option (Nat × Int32 × β) := match x with | some (0, v, M) => k v M | some (n + 1, _, M) => er (n + 1) M | none => none
def xer (n : Nat) (M : Mem) : Option XR := some (n, 0, M)
