/-! ===== groups: both ===== -/
abbrev Grp : Type := Int32 × Int32 × Int32
def cpt {α : Type} (P : α → Bool) : List α → Nat
  | [] => 0
  | a :: l => (if P a = true then 1 else 0) + cpt P l
def CG (M : Mem) (a0 : Nat) (G : List Grp) : Prop := M a0 5 = nI G.length ∧ ∀ x e, G[x]? = some e → M (a0 + 1) (3 * x) = e.1 ∧ M (a0 + 1) (3 * x + 1) = e.2.1 ∧ M (a0 + 1) (3 * x + 2) = e.2.2
def MG (m : Mem) (G : List Grp) : Prop := m 0 71 = nI G.length ∧ ∀ x e, G[x]? = some e → m 53 x = e.1 ∧ m 54 x = e.2.1 ∧ m 55 x = e.2.2
def GSO (G : List Grp) : Prop := ∀ (i j : Nat) (e e' : Grp), G[i]? = some e → G[j]? = some e' → i < j → f_X0_rank e.1 < f_X0_rank e'.1
def KU (G : List Grp) : Prop := ∀ (i j : Nat) (e e' : Grp), G[i]? = some e → G[j]? = some e' → e.1 = e'.1 → i = j
def gadd (e : Grp) (last : Int32) : Grp := (e.1, e.2.1 + 1, e.2.2 + (if f_X10_isNumber last = nI 0 then 0 else last))
section Group
variable {fu a0 q i j x : Nat} {M m N n : Mem} {G Gc Gm : List Grp} {e : Grp} {v w last : Int32}
theorem cpt_app {α : Type} {P : α → Bool} {l l' : List α} : cpt P (l ++ l') = cpt P l + cpt P l' := by
  induction l with
  | nil => simp [cpt]
  | cons a l ih => simp only [List.cons_append, cpt, ih]; omega
theorem cpt_set {α : Type} {P : α → Bool} {l : List α} {i : Nat} {e e' : α} (h : l[i]? = some e) : cpt P (l.set i e') + (if P e = true then 1 else 0) = cpt P l + (if P e' = true then 1 else 0) := by
  induction l generalizing i with
  | nil => simp at h
  | cons a l ih =>
    cases i with
    | zero =>
      simp at h
      subst h
      simp only [List.set_cons_zero, cpt]
      omega
    | succ i =>
      simp at h
      have := ih h
      simp only [List.set_cons_succ, cpt]
      omega
theorem cpt_ins {α : Type} {P : α → Bool} {l : List α} {i : Nat} {e : α} (h : i ≤ l.length) : cpt P (l.insertIdx i e) = cpt P l + (if P e = true then 1 else 0) := by
  induction l generalizing i with
  | nil =>
    have : i = 0 := by simpa using h
    subst this
    simp [cpt]
  | cons a l ih =>
    cases i with
    | zero => simp only [List.insertIdx_zero, cpt]; omega
    | succ i =>
      simp at h
      simp only [List.insertIdx_succ_cons, cpt, ih h]
      omega
theorem cpt_mem {α : Type} {P : α → Bool} {l : List α} : 0 < cpt P l ↔ ∃ a, a ∈ l ∧ P a = true := by
  induction l with
  | nil => simp [cpt]
  | cons a l ih =>
    simp only [cpt, List.mem_cons]
    constructor
    · intro h
      by_cases hp : P a = true
      · exact ⟨a, Or.inl rfl, hp⟩
      · rw [if_neg hp] at h
        obtain ⟨b, b1, b2⟩ := ih.mp (by omega)
        exact ⟨b, Or.inr b1, b2⟩
    · rintro ⟨b, rfl | hb, hp⟩
      · rw [if_pos hp]; omega
      · have := ih.mpr ⟨b, hb, hp⟩; omega
theorem cpt_len {α : Type} {l : List α} : cpt (fun _ => true) l = l.length := by
  induction l with
  | nil => rfl
  | cons a l ih => simp only [cpt, ih, List.length_cons, ↓reduceIte]; omega
theorem cpt_all {α : Type} {P : α → Bool} {l : List α} (h : ∀ a ∈ l, P a = true) : cpt P l = l.length := by
  induction l with
  | nil => rfl
  | cons a l ih =>
    simp only [cpt, List.length_cons, ih (fun b hb => h b (List.mem_cons_of_mem _ hb)), if_pos (h a (List.mem_cons_self ..))]
    omega
theorem cpt_none {α : Type} {P : α → Bool} {l : List α} (h : ∀ a ∈ l, P a = false) : cpt P l = 0 := by
  induction l with
  | nil => rfl
  | cons a l ih =>
    simp only [cpt, ih (fun b hb => h b (List.mem_cons_of_mem _ hb)), h a (List.mem_cons_self ..)]
    rfl
theorem pe_mem (h : ∀ P : Grp → Bool, cpt P Gc = cpt P Gm) : e ∈ Gc ↔ e ∈ Gm := by
  have h1 := h (fun x => decide (x = e))
  constructor
  · intro hm
    have : 0 < cpt (fun x => decide (x = e)) Gc := cpt_mem.mpr ⟨e, hm, by simp⟩
    obtain ⟨a, a1, a2⟩ := cpt_mem.mp (h1 ▸ this)
    simp at a2
    exact a2 ▸ a1
  · intro hm
    have : 0 < cpt (fun x => decide (x = e)) Gm := cpt_mem.mpr ⟨e, hm, by simp⟩
    obtain ⟨a, a1, a2⟩ := cpt_mem.mp (h1.symm ▸ this)
    simp at a2
    exact a2 ▸ a1
theorem rk_inj (hv : okc v) (hw : okc w) (h : f_X0_rank v = f_X0_rank w) : v = w := by
  simp only [f_X0_rank, okc] at *
  grind
theorem rk_lt (hv : okc v) (hw : okc w) : (f_X11_rankOf v ≤ f_X11_rankOf w) ↔ (f_X0_rank v ≤ f_X0_rank w) := by
  simp only [f_X0_rank, f_X11_rankOf, okc] at *
  grind
theorem shk_3 {f : Nat → Int32} {lo hi : Nat} (h : lo < hi) : upd (shk 3 f (lo + 1) hi) (lo + 3) (f lo) = shk 3 f lo hi := by
  funext j
  simp only [upd, shk]
  by_cases h1 : j = lo + 3
  · subst h1
    rw [if_pos rfl, if_pos (by omega)]
    rfl
  · rw [if_neg h1]
    by_cases h2 : lo + 1 + 3 ≤ j ∧ j < hi + 3
    · rw [if_pos h2, if_pos (by omega)]
    · rw [if_neg h2, if_neg (by omega)]
theorem shiftL {F : Nat → Int32} {kk : Mem → Option (Int32 × Mem)} {lo hi : Nat} (hhi : hi + 3 ≤ 120) : ∀ d n, lo + d ≤ hi → d < n → f_X0_groupOf_L68 fu a0 (nI lo) kk n (nI (lo + d) - nI 1) (row M (a0 + 1) (shk 3 F (lo + d) hi)) = kk (row M (a0 + 1) (shk 3 F lo hi)) := by
  intro d
  induction d with
  | zero =>
    intro n h1 h2
    obtain ⟨n, rfl⟩ := fu1 h2
    have : nI lo - nI 1 < nI lo := by
      rw [Int32.lt_iff_toInt_lt, pk_sub_toInt (by omega) (by omega), nI_toInt (by omega)]
      omega
    simp only [Nat.add_zero, f_X0_groupOf_L68, this, ↓reduceIte]
  | succ d ih =>
    intro n h1 h2
    obtain ⟨n, rfl⟩ := fu1 h2
    have e1 : nI (lo + (d + 1)) - nI 1 = nI (lo + d) := pk_sub (by omega)
    have h3 : ¬ lo + d < lo := by omega
    have e2 : nI (lo + d) + -nI 1 = nI (lo + d) - nI 1 := (Int32.sub_eq_add_neg _ _).symm
    rw [e1]
    have ih' := ih n (by omega) (by omega)
    rw [← e2] at ih'
    simp (disch := omega) only [f_X0_groupOf_L68, lit, nI_ltI, h3, ↓reduceIte, inb_nI, grd_true, nI_clamp, nI_add, nm_d, row_s]
    rw [shk_b (by omega), up_row, row_s, row_row, show lo + (d + 1) = lo + d + 1 by omega, shk_3 (by omega)]
    exact ih'
theorem findL {kk : Int32 → Option (Int32 × Mem)} (hC : CG M a0 G) (hl : G.length ≤ 12) : ∀ d x n, x + d = G.length → d < n → (∀ i e, i < x → G[i]? = some e → f_X0_rank e.1 < f_X0_rank v) → ∃ q, q ≤ G.length ∧ f_X0_groupOf_L2 fu a0 v M kk n (nI x) = kk (nI q) ∧ (∀ i e, i < q → G[i]? = some e → f_X0_rank e.1 < f_X0_rank v) ∧ (∀ e, G[q]? = some e → f_X0_rank v ≤ f_X0_rank e.1) := by
  intro d
  induction d with
  | zero =>
    intro x n h1 h2 h3
    obtain ⟨n, rfl⟩ := fu1 h2
    obtain rfl : x = G.length := by omega
    refine ⟨G.length, Nat.le_refl _, ?_, h3, fun e he => by simp at he⟩
    simp (disch := omega) only [f_X0_groupOf_L2, hC.1, lit, nI_add, pk_mul, pk_sub, nI_clamp, inb_nI, nI_leI, nI_ltI, nI_eq, add_m1, ↓reduceIte, grd_true, nm_d, jn_d, bd_some, bm_some, om_some, om_none, Nat.le_refl]
  | succ d ih =>
    intro x n h1 h2 h3
    obtain ⟨n, rfl⟩ := fu1 h2
    have h4 : ¬ G.length ≤ x := by omega
    obtain ⟨e, he⟩ := gl_ex (L := G) (i := x) (by omega)
    have e1 := (hC.2 x e he).1
    rw [Nat.mul_comm] at e1
    by_cases hle : f_X0_rank v ≤ f_X0_rank e.1
    · refine ⟨x, by omega, ?_, h3, fun e' he' => by rw [he] at he'; cases he'; exact hle⟩
      simp (disch := omega) only [f_X0_groupOf_L2, hC.1, lit, nI_add, pk_mul, pk_sub, nI_clamp, inb_nI, nI_leI, nI_ltI, nI_eq, add_m1, ↓reduceIte, grd_true, nm_d, jn_d, bd_some, bm_some, om_some, om_none, h4, e1, hle]
    · obtain ⟨q, g1, g2, g3, g4⟩ := ih (x + 1) n (by omega) (by omega) (fun i e' hi he' => by
        by_cases hix : i = x
        · subst hix; rw [he] at he'; cases he'; exact Int32.not_le.mp hle
        · exact h3 i e' (by omega) he')
      refine ⟨q, g1, ?_, g3, g4⟩
      rw [← g2]
      simp (disch := omega) only [f_X0_groupOf_L2, hC.1, lit, nI_add, pk_mul, pk_sub, nI_clamp, inb_nI, nI_leI, nI_ltI, nI_eq, add_m1, ↓reduceIte, grd_true, nm_d, jn_d, bd_some, bm_some, om_some, om_none, h4, e1, hle]
theorem groupOf_ok (hfu : 5000 ≤ fu) (hC : CG M a0 G) (hS : GSO G) (hl : G.length ≤ 12) (hok : ∀ e ∈ G, okc e.1) (hv : okc v) : ∃ q N G' e, f_X0_groupOf fu a0 v M = some (nI q, N) ∧ CG N a0 G' ∧ GSO G' ∧ q < G'.length ∧ G'[q]? = some e ∧ e.1 = v ∧ ((G' = G) ∨ ((∀ e ∈ G, e.1 ≠ v) ∧ q ≤ G.length ∧ G' = G.insertIdx q (v, 0, 0) ∧ e = (v, 0, 0))) ∧ (∀ a, a ≠ a0 → a ≠ a0 + 1 → N a = M a) ∧ (∀ j, j ≠ 5 → N a0 j = M a0 j) := by
  obtain ⟨q, g1, g2, g3, g4⟩ := findL (fu := fu) (v := v) (kk := fun (x2_2 : Int32) => nm (x2_2 * 3) (fun x3_3 => jn (fun (_ : Unit) => nm (((M a0 5) * 3) - 1) (fun x4_5 => jn (fun (M_7 : Mem) => grd (inb x3_3 120) (nm (up M_7 (a0 + 1) x3_3.toNatClampNeg v) (fun M_9 => grd (inb (x3_3 + 1) 120) (nm (up M_9 (a0 + 1) (x3_3 + 1).toNatClampNeg 0) (fun M_11 => grd (inb (x3_3 + 2) 120) (nm (up M_11 (a0 + 1) (x3_3 + 2).toNatClampNeg 0) (fun M_13 => nm (up M_13 a0 5 ((M_13 a0 5) + 1)) (fun M_14 => some (x2_2, M_14))))))))) (fun k96_6 => f_X0_groupOf_L68 fu a0 x3_3 k96_6 fu x4_5 M))) (fun k58_4 => (if (M a0 5) ≤ x2_2 then k58_4 () else grd (inb x3_3 120) ((if (M (a0 + 1) x3_3.toNatClampNeg) = v then some (x2_2, M) else k58_4 ())))))) hC hl G.length 0 fu (by omega) (by omega) (fun i e hi => by omega)
  have e0 : f_X0_groupOf fu a0 v M = _ := g2
  rw [e0]
  clear e0 g2
  -- what is done where it isn't there
  have put : (∀ e ∈ G, e.1 ≠ v) → ∃ N, (jn (fun (M_7 : Mem) => grd (inb (nI (3 * q)) 120) (nm (up M_7 (a0 + 1) (nI (3 * q)).toNatClampNeg v) (fun M_9 => grd (inb (nI (3 * q) + 1) 120) (nm (up M_9 (a0 + 1) (nI (3 * q) + 1).toNatClampNeg 0) (fun M_11 => grd (inb (nI (3 * q) + 2) 120) (nm (up M_11 (a0 + 1) (nI (3 * q) + 2).toNatClampNeg 0) (fun M_13 => nm (up M_13 a0 5 ((M_13 a0 5) + 1)) (fun M_14 => some (nI q, M_14))))))))) (fun k96_6 => f_X0_groupOf_L68 fu a0 (nI (3 * q)) k96_6 fu (nI (3 * G.length) - nI 1) M)) = some (nI q, N) ∧ CG N a0 (G.insertIdx q (v, 0, 0)) ∧ GSO (G.insertIdx q (v, 0, 0)) ∧ (∀ a, a ≠ a0 → a ≠ a0 + 1 → N a = M a) ∧ (∀ j, j ≠ 5 → N a0 j = M a0 j) := by
    intro hne
    have sh := fun kk => shiftL (fu := fu) (a0 := a0) (M := M) (F := M (a0 + 1)) (kk := kk) (lo := 3 * q) (hi := 3 * G.length) (by omega) (3 * G.length - 3 * q) fu (by omega) (by omega)
    have e3 : 3 * q + (3 * G.length - 3 * q) = 3 * G.length := by omega
    simp only [e3, shk_0, row_self] at sh
    have i1 : nI (3 * q) + 1 = nI (3 * q + 1) := nI_add _ 1
    have i2 : nI (3 * q) + 2 = nI (3 * q + 2) := nI_add _ 2
    refine ⟨up (row M (a0 + 1) (upd (upd (upd (shk 3 (M (a0 + 1)) (3 * q) (3 * G.length)) (3 * q) v) (3 * q + 1) 0) (3 * q + 2) 0)) a0 5 (nI (G.length + 1)), ?_, ⟨?_, fun x e he => ?_⟩, fun i j e e' he he' hij => ?_, fun a z1 z2 => by rw [up_n z1, row_n z2], fun j hj => by rw [up_m hj, row_n (by omega)]⟩
    · rw [jn_d, sh, i1, i2]
      rw [inb_nI (show 3 * q < 120 by omega) (by omega), inb_nI (show 3 * q + 1 < 120 by omega) (by omega), inb_nI (show 3 * q + 2 < 120 by omega) (by omega), nI_clamp (show 3 * q < 2 ^ 31 by omega), nI_clamp (show 3 * q + 1 < 2 ^ 31 by omega), nI_clamp (show 3 * q + 2 < 2 ^ 31 by omega)]
      simp only [grd_true, nm_d, up_row (i := a0 + 1), row_s, row_row]
      rw [row_n (by omega), hC.1, nI_1]
    · rw [up_s, List.length_insertIdx, if_pos g1]
    · rw [up_n (by omega), row_s]
      rw [List.getElem?_insertIdx] at he
      by_cases h1 : x < q
      · rw [if_pos h1] at he
        obtain ⟨c1, c2, c3⟩ := hC.2 x e he
        simp only [upd, shk]
        rw [if_neg (by omega), if_neg (by omega), if_neg (by omega), if_neg (by omega), if_neg (by omega), if_neg (by omega), if_neg (by omega), if_neg (by omega), if_neg (by omega), if_neg (by omega), if_neg (by omega), if_neg (by omega)]
        exact ⟨c1, c2, c3⟩
      · rw [if_neg h1] at he
        by_cases h2 : x = q
        · rw [if_pos h2, if_pos (by omega)] at he
          cases he
          subst h2
          simp [upd]
        · rw [if_neg h2] at he
          obtain ⟨c1, c2, c3⟩ := hC.2 (x - 1) e he
          have hx := gl_lt he
          simp only [upd, shk]
          rw [if_neg (by omega), if_neg (by omega), if_neg (by omega), if_pos (by omega), if_neg (by omega), if_neg (by omega), if_neg (by omega), if_pos (by omega), if_neg (by omega), if_neg (by omega), if_neg (by omega), if_pos (by omega)]
          rw [show 3 * x - 3 = 3 * (x - 1) by omega, show 3 * x + 1 - 3 = 3 * (x - 1) + 1 by omega, show 3 * x + 2 - 3 = 3 * (x - 1) + 2 by omega]
          exact ⟨c1, c2, c3⟩
    · have lo : ∀ i e, i < q → G[i]? = some e → f_X0_rank e.1 < f_X0_rank v := g3
      have hi : ∀ i e, q ≤ i → G[i]? = some e → f_X0_rank v < f_X0_rank e.1 := by
        intro i0 e0 hi0 he0
        obtain ⟨e1, he1⟩ := gl_ex (L := G) (i := q) (by have := gl_lt he0; omega)
        have h1 := g4 e1 he1
        have h2 : f_X0_rank v < f_X0_rank e1.1 := by
          have hn := hne e1 (List.mem_of_getElem? he1)
          have : f_X0_rank v ≠ f_X0_rank e1.1 := fun h => hn (rk_inj hv (hok e1 (List.mem_of_getElem? he1)) h).symm
          grind
        by_cases hiq : i0 = q
        · rw [hiq, he1] at he0; cases he0; exact h2
        · have := hS q i0 e1 e0 he1 he0 (by omega)
          grind
      rw [List.getElem?_insertIdx] at he he'
      by_cases c1 : i < q
      · rw [if_pos c1] at he
        by_cases c2 : j < q
        · rw [if_pos c2] at he'; exact hS i j e e' he he' hij
        · rw [if_neg c2] at he'
          by_cases c3 : j = q
          · rw [if_pos c3, if_pos (by omega)] at he'; cases he'; exact lo i e c1 he
          · rw [if_neg c3] at he'; exact hS i (j - 1) e e' he he' (by omega)
      · rw [if_neg c1] at he
        by_cases c2 : i = q
        · rw [if_pos c2, if_pos (by omega)] at he; cases he
          rw [if_neg (by omega), if_neg (by omega)] at he'
          exact hi (j - 1) e' (by omega) he'
        · rw [if_neg c2] at he
          rw [if_neg (by omega), if_neg (by omega)] at he'
          exact hS (i - 1) (j - 1) e e' he he' (by omega)
  have i3 : nI q * 3 = nI (3 * q) := by rw [lit, pk_mul, Nat.mul_comm]
  have i4 : M a0 5 * 3 - 1 = nI (3 * G.length) - nI 1 := by rw [hC.1, lit, pk_mul, Nat.mul_comm]; rfl
  rw [nm_d, i3, jn_d, nm_d, i4, hC.1]
  have hins : (G.insertIdx q (v, 0, 0))[q]? = some (v, 0, 0) := by rw [List.getElem?_insertIdx, if_neg (by omega), if_pos rfl, if_pos g1]
  by_cases hq : G.length ≤ q
  · have hle : nI G.length ≤ nI q := by rw [nI_leI (by omega) (by omega)]; exact hq
    have hne : ∀ e ∈ G, e.1 ≠ v := fun e he => by
      obtain ⟨i, hi⟩ := List.mem_iff_getElem?.mp he
      have := g3 i e (by have := gl_lt hi; omega) hi
      intro h; rw [h] at this; grind
    obtain ⟨N, p1, p2, p3, p4, p5⟩ := put hne
    rw [if_pos hle]
    exact ⟨q, N, _, (v, 0, 0), p1, p2, p3, by rw [List.length_insertIdx, if_pos g1]; omega, hins, rfl, Or.inr ⟨hne, g1, rfl, rfl⟩, p4, p5⟩
  · have hle : ¬ nI G.length ≤ nI q := by rw [nI_leI (by omega) (by omega)]; exact hq
    obtain ⟨e, he⟩ := gl_ex (L := G) (i := q) (by omega)
    have c1 := (hC.2 q e he).1
    rw [if_neg hle, inb_nI (show 3 * q < 120 by omega) (by omega), grd_true, nI_clamp (show 3 * q < 2 ^ 31 by omega), c1]
    by_cases hev : e.1 = v
    · rw [if_pos hev]
      exact ⟨q, M, G, e, rfl, hC, hS, by omega, he, hev, Or.inl rfl, fun _ _ _ => rfl, fun _ _ => rfl⟩
    · have hne : ∀ e' ∈ G, e'.1 ≠ v := fun e' he' h => by
        obtain ⟨i, hi⟩ := List.mem_iff_getElem?.mp he'
        rcases Nat.lt_trichotomy i q with h1 | h1 | h1
        · have := g3 i e' h1 hi; rw [h] at this; grind
        · subst h1; rw [he] at hi; cases hi; exact hev h
        · have h2 := hS q i e e' he hi h1
          have h3 := g4 e he
          rw [h] at h2
          grind
      obtain ⟨N, p1, p2, p3, p4, p5⟩ := put hne
      rw [if_neg hev]
      rw [inb_nI (show 3 * q < 120 by omega) (by omega), nI_clamp (show 3 * q < 2 ^ 31 by omega)] at p1
      exact ⟨q, N, _, (v, 0, 0), p1, p2, p3, by rw [List.length_insertIdx, if_pos g1]; omega, hins, rfl, Or.inr ⟨hne, g1, rfl, rfl⟩, p4, p5⟩
end Group
