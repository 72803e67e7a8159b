/-! ===== what a function answers ===== -/
def Ok {α : Type} (o : Option α) (Q : α → Prop) : Prop := ∃ a, o = some a ∧ Q a
section OkRows
variable {α β μ τ : Type} {Q : α → Prop}
theorem ok_some {a : α} : Ok (some a) Q ↔ Q a := ⟨fun ⟨_, h, q⟩ => by cases h; exact q, fun q => ⟨a, rfl, q⟩⟩
theorem ok_none : Ok (none : Option α) Q ↔ False := ⟨fun ⟨_, h, _⟩ => (nomatch h), False.elim⟩
theorem grd_t {b : Bool} {k : Option α} (h : b = true) : grd b k = k := by simp [grd, h]
theorem grd_true {k : Option α} : grd true k = k := rfl
theorem nm_d {v : β} {k : β → α} : nm v k = k v := rfl
theorem jn_d {r : τ} {T : τ → α} : jn r T = T r := rfl
theorem bd_some {a : β} {k : β → Option α} : bd (some a) k = k a := rfl
theorem bm_some {a : β} {m : μ} {k : β → μ → Option α} : bm (some (a, m)) k = k a m := rfl
theorem om_some {a : β} {ks : β → α} {kn : α} : om (some a) ks kn = ks a := rfl
theorem om_none {ks : β → α} {kn : α} : om none ks kn = kn := rfl
theorem ok_grd {b : Bool} {k : Option α} : Ok (grd b k) Q ↔ b = true ∧ Ok k Q := by
  cases b with
  | true => exact ⟨fun h => ⟨rfl, h⟩, fun h => h.2⟩
  | false => exact ⟨fun ⟨_, h, _⟩ => (nomatch h), fun h => (nomatch h.1)⟩
theorem ok_nm {v : β} {k : β → Option α} : Ok (nm v k) Q ↔ Ok (k v) Q := Iff.rfl
theorem ok_jn {r : τ} {T : τ → Option α} : Ok (jn r T) Q ↔ Ok (T r) Q := Iff.rfl
theorem ok_bd {x : Option β} {k : β → Option α} : Ok (bd x k) Q ↔ Ok x (fun a => Ok (k a) Q) := by
  cases x with
  | some a => exact ⟨fun h => ⟨a, rfl, h⟩, fun ⟨_, h, q⟩ => by cases h; exact q⟩
  | none => exact ⟨fun ⟨_, h, _⟩ => (nomatch h), fun ⟨_, h, _⟩ => (nomatch h)⟩
theorem ok_bm {x : Option (β × μ)} {k : β → μ → Option α} : Ok (bm x k) Q ↔ Ok x (fun p => Ok (k p.1 p.2) Q) := by
  cases x with
  | some a => exact ⟨fun h => ⟨a, rfl, h⟩, fun ⟨_, h, q⟩ => by cases h; exact q⟩
  | none => exact ⟨fun ⟨_, h, _⟩ => (nomatch h), fun ⟨_, h, _⟩ => (nomatch h)⟩
theorem ok_ite {c : Prop} [Decidable c] {A B : Option α} : Ok (if c then A else B) Q ↔ (c → Ok A Q) ∧ (¬ c → Ok B Q) := by
  by_cases h : c
  · simp [h]
  · simp [h]
theorem ok_om {o : Option β} {ks : β → Option α} {kn : Option α} : Ok (om o ks kn) Q ↔ (∀ a, o = some a → Ok (ks a) Q) ∧ (o = none → Ok kn Q) := by
  cases o with
  | some a => exact ⟨fun h => ⟨fun b e => by cases e; exact h, fun e => (nomatch e)⟩, fun h => h.1 a rfl⟩
  | none => exact ⟨fun h => ⟨fun _ e => (nomatch e), fun _ => h⟩, fun h => h.2 rfl⟩
theorem Ok.imp {o : Option α} {P Q : α → Prop} (h : Ok o P) (f : ∀ a, P a → Q a) : Ok o Q := let ⟨a, e, p⟩ := h; ⟨a, e, f a p⟩
theorem ok_eq {o : Option α} {a : α} (h : o = some a) : Ok o Q ↔ Q a := by rw [h]; exact ok_some
theorem Ok.ex {o : Option α} {a : α} (h : o = some a) (q : Q a) : Ok o Q := ⟨a, h, q⟩
end OkRows
/-! ===== numbers ===== -/
theorem lit {n : Nat} : (@OfNat.ofNat Int32 n Int32.instOfNat) = nI (@OfNat.ofNat Nat n (instOfNatNat n)) := rfl
theorem inb_nI {k n : Nat} (h : k < n) (hn : n < 2 ^ 31) : inb (nI k) n = true := by
  have h1 : (nI k).toNatClampNeg = k := nI_clamp (by omega)
  have h2 : 0 ≤ nI k := nI_pos' (by omega)
  simp [inb, h1, h2, h]
theorem add_m1 {a : Nat} (h : 0 < a) : nI a + -nI 1 = nI (a - 1) := by
  obtain ⟨b, rfl⟩ : ∃ b, a = b + 1 := ⟨a - 1, by omega⟩
  rw [show b + 1 - 1 = b by omega]
  exact pk_m1 b
theorem nI_nm1 {a : Nat} (h : a < 2 ^ 31) : nI a ≠ -nI 1 := fun e => by
  have h1 := nI_toInt h
  rw [e] at h1
  have h2 : (-nI 1).toInt = -1 := by decide
  omega
theorem nI_i32 {x : Int32} (h : 0 ≤ x) : x = nI x.toNatClampNeg := by
  have h1 : ¬ x < 0 := Int32.not_lt.mpr h
  obtain ⟨j, hj, rfl⟩ := nI_of h1
  rw [nI_clamp hj]
theorem i_le {a b : Int32} : a ≤ b ↔ a.toInt ≤ b.toInt := Int32.le_iff_toInt_le
theorem i_lt {a b : Int32} : a < b ↔ a.toInt < b.toInt := Int32.lt_iff_toInt_lt
theorem i_eq {a b : Int32} : a = b ↔ a.toInt = b.toInt := ⟨fun h => by rw [h], Int32.toInt_inj.mp⟩
/-! ===== memories ===== -/
section MemRows
variable {M : Mem} {i j a b : Nat} {v : Int32} {f : Nat → Int32}
theorem up_s : up M i j v i j = v := by simp [up, row, upd]
theorem up_n (h : a ≠ i) : up M i j v a = M a := by simp [up, row, h]
theorem up_m (h : b ≠ j) : up M i j v i b = M i b := by simp [up, row, upd, h]
theorem up_r : up M i j v i = upd (M i) j v := by simp [up, row]
theorem up_row : up M i j v = row M i (upd (M i) j v) := rfl
theorem up_cv {v w : Int32} (h : v = w) : up M i j v = up M i j w := by rw [h]
theorem row_row {g : Nat → Int32} : row (row M i f) i g = row M i g := by
  funext x
  simp only [row]
  split <;> rfl
theorem row_self : row M i (M i) = M := by
  funext x
  simp only [row]
  split
  · simp_all
  · rfl
end MemRows
