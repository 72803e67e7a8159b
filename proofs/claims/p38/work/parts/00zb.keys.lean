/-! ===== the keys: both ===== -/
def kst (c : Nat) (st : (Nat → Int32) × Nat) (r : Row) : (Nat → Int32) × Nat := if f_X10_isNumber (cel r c) ≠ nI 0 ∧ kin st.1 (cel r c) 0 st.2 = false then (upd (shk 1 st.1 (pl st.1 (cel r c) st.2) st.2) (pl st.1 (cel r c) st.2) (cel r c), st.2 + 1) else st
def KD (st : (Nat → Int32) × Nat) : Prop := ∀ i j, i < j → j < st.2 → st.1 i ≠ st.1 j
section Keys
variable {fu nS nL nC nO i j s t e p c : Nat} {M m N n : Mem} {A F : List Row} {r : Row} {st : (Nat → Int32) × Nat}
theorem kst_le : (kst c st r).2 ≤ st.2 + 1 := by
  simp only [kst]
  split <;> simp
theorem kin_f {f : Nat → Int32} {v : Int32} {a b k : Nat} (h : kin f v a b = false) (h1 : a ≤ k) (h2 : k < b) : f k ≠ v := by
  intro e
  have : kin f v a b = true := an_t (k := k) (by simp [h1, e]) h2
  rw [h] at this
  cases this
theorem kst_KD (h : KD st) : KD (kst c st r) := by
  simp only [kst]
  split
  · rename_i hh
    have hq := pl_le (f := st.1) (m := cel r c) (n := st.2)
    have hne : ∀ k, k < st.2 → st.1 k ≠ cel r c := fun k hk => kin_f hh.2 (Nat.zero_le _) hk
    generalize pl st.1 (cel r c) st.2 = q at hq ⊢
    intro x y hxy hy
    dsimp only at hy ⊢
    simp only [upd, shk]
    by_cases hxq : x = q
    · rw [if_pos hxq, if_neg (by omega), if_pos (by omega)]
      exact fun e => hne _ (by omega) e.symm
    · rw [if_neg hxq]
      by_cases hyq : y = q
      · rw [if_pos hyq, if_neg (by omega)]
        exact hne _ (by omega)
      · rw [if_neg hyq]
        by_cases hx1 : q + 1 ≤ x ∧ x < st.2 + 1
        · rw [if_pos hx1, if_pos (by omega)]
          exact h (x - 1) (y - 1) (by omega) (by omega)
        · rw [if_neg hx1]
          by_cases hy1 : q + 1 ≤ y ∧ y < st.2 + 1
          · rw [if_pos hy1]
            exact h x (y - 1) (by omega) (by omega)
          · rw [if_neg hy1]
            exact h x y hxy (by omega)
  · exact h
theorem fold_KD : ∀ (F : List Row) (st : (Nat → Int32) × Nat), KD st → KD (F.foldl (kst c) st) ∧ (F.foldl (kst c) st).2 ≤ st.2 + F.length := by
  intro F
  induction F with
  | nil => intro st h; exact ⟨h, by simp⟩
  | cons r F ih =>
    intro st h
    have h1 := ih (kst c st r) (kst_KD h)
    have h2 := kst_le (c := c) (st := st) (r := r)
    simp only [List.foldl_cons, List.length_cons]
    exact ⟨h1.1, by omega⟩
theorem addKeyL {f : Nat → Int32} {v : Int32} {k : Nat} (hk : k < 12) {kk : Int32 → Mem → Option Mem} : ∀ p n', p ≤ k → p < n' → f_X1_addKey_L5 fu v kk n' (nI p) (row M 121 (shk 1 f p k)) = kk (nI (pl f v p)) (row M 121 (shk 1 f (pl f v p) k)) := by
  intro p
  induction p with
  | zero =>
    intro n' h1 h2
    obtain ⟨n', rfl⟩ := fu1 h2
    simp (disch := omega) only [f_X1_addKey_L5, lit, nI_add, pk_mul, pk_sub, nI_clamp, inb_nI, nI_leI, nI_ltI, nI_eq, add_m1, ↓reduceIte, grd_true, nm_d, jn_d, bd_some, bm_some, om_some, om_none, Nat.le_refl, pl]
  | succ p ih =>
    intro n' h1 h2
    obtain ⟨n', rfl⟩ := fu1 h2
    have h3 : ¬ p + 1 ≤ 0 := by omega
    simp (disch := omega) only [f_X1_addKey_L5, lit, nI_add, pk_mul, pk_sub, nI_clamp, inb_nI, nI_leI, nI_ltI, nI_eq, add_m1, ↓reduceIte, grd_true, nm_d, jn_d, bd_some, bm_some, om_some, om_none, h3, Nat.add_sub_cancel, row_s, pl]
    rw [shk_b (by omega)]
    by_cases hm : f p ≤ v
    · simp only [hm, ↓reduceIte]
    · simp only [hm, ↓reduceIte]
      rw [up_row, row_s, row_row, shk_1 (by omega)]
      exact ih n' (by omega) (by omega)
theorem addKey_eq {v : Int32} {k : Nat} (hfu : 5000 ≤ fu) (h6 : M 120 6 = nI k) (hk : k < 12) : f_X1_addKey fu v M = some (up (row M 121 (upd (shk 1 (M 121) (pl (M 121) v k) k) (pl (M 121) v k) v)) 120 6 (nI (k + 1))) := by
  have hq := pl_le (f := M 121) (m := v) (n := k)
  have e := addKeyL (fu := fu) (M := M) (f := M 121) (v := v) hk (kk := fun (x2_3 : Int32) (M_4 : Mem) => grd (inb x2_3 12) (some (up (up M_4 121 x2_3.toNatClampNeg v) 120 6 (up M_4 121 x2_3.toNatClampNeg v 120 6 + 1)))) k fu (Nat.le_refl _) (by omega)
  rw [shk_0, row_self] at e
  simp only [f_X1_addKey, nm_d, jn_d, h6]
  rw [e]
  simp (disch := omega) only [inb_nI, grd_true, nI_clamp, up_n, row_n, h6, nI_1]
  rw [up_row (i := 121), row_s, row_row]
theorem mkeysL {f : Nat → Int32} {v : Int32} {k : Nat} (hk : k < 12) {kk : Int32 → Mem → Option Mem} : ∀ p n', p ≤ k → p < n' → f_X11_laysKeys_L71 fu v kk n' (nI p) (row M 48 (shk 1 f p k)) = kk (nI (pl f v p)) (row M 48 (shk 1 f (pl f v p) k)) := by
  intro p
  induction p with
  | zero =>
    intro n' h1 h2
    obtain ⟨n', rfl⟩ := fu1 h2
    simp (disch := omega) only [f_X11_laysKeys_L71, lit, nI_add, pk_mul, pk_sub, nI_clamp, inb_nI, nI_leI, nI_ltI, nI_eq, add_m1, ↓reduceIte, grd_true, nm_d, jn_d, bd_some, bm_some, om_some, om_none, Nat.le_refl, pl]
  | succ p ih =>
    intro n' h1 h2
    obtain ⟨n', rfl⟩ := fu1 h2
    have h3 : ¬ p + 1 ≤ 0 := by omega
    simp (disch := omega) only [f_X11_laysKeys_L71, lit, nI_add, pk_mul, pk_sub, nI_clamp, inb_nI, nI_leI, nI_ltI, nI_eq, add_m1, ↓reduceIte, grd_true, nm_d, jn_d, bd_some, bm_some, om_some, om_none, h3, Nat.add_sub_cancel, row_s, pl]
    rw [shk_b (by omega)]
    by_cases hm : f p ≤ v
    · simp only [hm, ↓reduceIte]
    · simp only [hm, ↓reduceIte]
      rw [up_row, row_s, row_row, shk_1 (by omega)]
      exact ih n' (by omega) (by omega)
theorem gathL (hfu : 5000 ≤ fu) (hj : j < 3) (he : e < 6) (hc : c < 4) : ∀ d x n st (M : Mem), x + d = F.length → d < n → RC M (96 + 3 * j) F → M 121 = st.1 → M 120 6 = nI st.2 → st.2 ≤ x → M 83 e = nI c →
    ∃ N, f_X1_gatherKeys_L25 fu (nI e) (96 + 3 * j) n (nI x) M = some N ∧ N 121 = ((F.drop x).foldl (kst c) st).1 ∧ N 120 6 = nI ((F.drop x).foldl (kst c) st).2 ∧ (∀ a, a ≠ 120 → a ≠ 121 → N a = M a) ∧ ∀ k, k ≠ 6 → N 120 k = M 120 k := by
  intro d
  induction d with
  | zero =>
    intro x n st M h1 h2 hR h121 h6 hst hc83
    obtain ⟨n, rfl⟩ := fu1 h2
    obtain rfl : x = F.length := by omega
    have h12 := hR.2.1
    refine ⟨M, by simp (disch := omega) only [f_X1_gatherKeys_L25, hR.1, lit, nI_add, pk_mul, pk_sub, nI_clamp, inb_nI, nI_leI, nI_ltI, nI_eq, add_m1, ↓reduceIte, grd_true, nm_d, jn_d, bd_some, bm_some, om_some, om_none, Nat.le_refl], ?_, ?_, fun _ _ _ => rfl, fun _ _ => rfl⟩
    · simp [h121]
    · simp [h6]
  | succ d ih =>
    intro x n st M h1 h2 hR h121 h6 hst hc83
    obtain ⟨n, rfl⟩ := fu1 h2
    have h12 := hR.2.1
    have h3 : ¬ F.length ≤ x := by omega
    obtain ⟨r, hr⟩ := gl_some (R := F) (i := x) (by omega)
    have hd : F.drop x = r :: F.drop (x + 1) := by
      have hl := gl_lt hr
      rw [List.getElem?_eq_getElem hl] at hr
      cases hr
      exact List.drop_eq_getElem_cons hl
    rw [hd, List.foldl_cons]
    have ekey := ckey_eq (fu := fu) (M := M) (v := cel r c) (a := 0) (b := st.2) hfu (by omega) (by omega)
    rw [h121] at ekey
    simp (disch := omega) only [f_X1_gatherKeys_L25, hR.1, lit, nI_add, pk_mul, pk_sub, nI_clamp, inb_nI, nI_leI, nI_ltI, nI_eq, add_m1, ↓reduceIte, grd_true, nm_d, jn_d, bd_some, bm_some, om_some, om_none, h3, hc83, cellAt_eq hR hr hc, h6, ekey, bI_0]
    by_cases hn : f_X10_isNumber (cel r c) = nI 0
    · have e1 : kst c st r = st := by simp [kst, hn]
      rw [if_pos hn, e1]
      exact ih (x + 1) n st M (by omega) (by omega) hR h121 h6 (by omega) hc83
    · rw [if_neg hn]
      cases hk : kin st.1 (cel r c) 0 st.2 with
      | true =>
        have e1 : kst c st r = st := by simp [kst, hk]
        rw [if_neg (by decide), e1]
        exact ih (x + 1) n st M (by omega) (by omega) hR h121 h6 (by omega) hc83
      | false =>
        have e1 : kst c st r = (upd (shk 1 st.1 (pl st.1 (cel r c) st.2) st.2) (pl st.1 (cel r c) st.2) (cel r c), st.2 + 1) := by simp [kst, hk, hn]
        rw [if_pos rfl, addKey_eq hfu h6 (by omega), bd_some, h121]
        have hle := kst_le (c := c) (st := st) (r := r)
        obtain ⟨N, g1, g2, g3, g4, g5⟩ := ih (x + 1) n (kst c st r) (up (row M 121 (upd (shk 1 st.1 (pl st.1 (cel r c) st.2) st.2) (pl st.1 (cel r c) st.2) (cel r c))) 120 6 (nI (st.2 + 1))) (by omega) (by omega)
          (hR.cg (by rw [up_n (by omega), row_n (by omega)]) (by rw [up_n (by omega), row_n (by omega)]) (by rw [up_n (by omega), row_n (by omega)]))
          (by rw [up_n (by omega), row_s, e1]) (by rw [up_s, e1]) (by omega) (by rw [up_n (by omega), row_n (by omega)]; exact hc83)
        exact ⟨N, g1, g2, g3, fun a h1 h2 => by rw [g4 a h1 h2, up_n h1, row_n h2], fun k hk => by rw [g5 k hk, up_m hk, row_n (by omega)]⟩
theorem gather_eq (hfu : 5000 ≤ fu) (hj : j < 3) (he : e < 6) (hc : c < 4) (hR : RC M (96 + 3 * j) F) (h82 : M 82 e = nI j) (h83 : M 83 e = nI c) : ∃ N, f_X1_gatherKeys fu (nI e) M = some N ∧ N 121 = (F.foldl (kst c) (M 121, 0)).1 ∧ N 120 6 = nI (F.foldl (kst c) (M 121, 0)).2 ∧ (∀ a, a ≠ 120 → a ≠ 121 → N a = M a) ∧ ∀ k, k ≠ 6 → N 120 k = M 120 k := by
  have h12 := hR.2.1
  obtain ⟨N, g1, g2, g3, g4, g5⟩ := gathL (fu := fu) (F := F) hfu hj he hc F.length 0 fu (M 121, 0) (up M 120 6 (nI 0)) (by omega) (by omega) (hR.cg (by rw [up_n (by omega)]) (by rw [up_n (by omega)]) (by rw [up_n (by omega)])) (by rw [up_n (by omega)]) up_s (by simp) (by rw [up_n (by omega)]; exact h83)
  rw [List.drop_zero] at g2 g3
  refine ⟨N, ?_, g2, g3, fun a h1 h2 => by rw [g4 a h1 h2, up_n h1], fun k hk => by rw [g5 k hk, up_m hk]⟩
  rw [← g1]
  simp (disch := omega) only [f_X1_gatherKeys, inb_nI, grd_true, nI_clamp, nm_d, h82, Nat.reduceAdd]
  rfl
theorem mlaysL (hfu : 5000 ≤ fu) (hi : i < 3) (hc : c < 4) (hok : okR A) : ∀ d x n st (M : Mem), x + d = A.length → d < n → DG M nS nL nC nO → DS M m → RS M i A → M 48 = st.1 → M 0 63 = nI st.2 → st.2 ≤ x →
    ∃ N, f_X11_laysKeys_L7 fu (nI i) (nI c) n (nI x) M = some N ∧ N 48 = ((A.drop x).foldl (fun s r => if al (hA m i r) nC = true then kst c s r else s) st).1 ∧ N 0 63 = nI ((A.drop x).foldl (fun s r => if al (hA m i r) nC = true then kst c s r else s) st).2 ∧ (∀ a, a ≠ 0 → a ≠ 48 → N a = M a) ∧ ∀ k, k ≠ 63 → N 0 k = M 0 k := by
  intro d
  induction d with
  | zero =>
    intro x n st M h1 h2 hG hD hR h121 h6 hst
    obtain ⟨n, rfl⟩ := fu1 h2
    obtain rfl : x = A.length := by omega
    have h12 := hR.2.1
    refine ⟨M, by simp (disch := omega) only [f_X11_laysKeys_L7, hR.1, lit, nI_add, pk_mul, pk_sub, nI_clamp, inb_nI, nI_leI, nI_ltI, nI_eq, add_m1, ↓reduceIte, grd_true, nm_d, jn_d, bd_some, bm_some, om_some, om_none, Nat.le_refl], ?_, ?_, fun _ _ _ => rfl, fun _ _ => rfl⟩
    · simp [h121]
    · simp [h6]
  | succ d ih =>
    intro x n st M h1 h2 hG hD hR h121 h6 hst
    obtain ⟨n, rfl⟩ := fu1 h2
    have h12 := hR.2.1
    have h3 : ¬ A.length ≤ x := by omega
    obtain ⟨r, hr⟩ := gl_some (R := A) (i := x) (by omega)
    have hokr := hok r (List.mem_of_getElem? hr)
    have hd : A.drop x = r :: A.drop (x + 1) := by
      have hl := gl_lt hr
      rw [List.getElem?_eq_getElem hl] at hr
      cases hr
      exact List.drop_eq_getElem_cons hl
    rw [hd, List.foldl_cons]
    have ekey := mkey_eq (fu := fu) (m := M) (v := cel r c) (a := 0) (b := st.2) hfu (by omega) (by omega)
    rw [h121] at ekey
    have ehold := holdHere_eq (fu := fu) hfu hG hi hR hr hokr
    rw [hD.cA] at ehold
    have ecell := hR.cell hr hc
    simp (disch := omega) only [f_X11_laysKeys_L7, hR.1, lit, nI_add, pk_mul, pk_sub, nI_clamp, inb_nI, nI_leI, nI_ltI, nI_eq, add_m1, ↓reduceIte, grd_true, nm_d, jn_d, bd_some, bm_some, om_some, om_none, h3, ecell, ehold, h6, ekey, bI_0, st_num (hokr c hc)]
    by_cases hn : f_X10_isNumber (cel r c) = nI 0
    · have e1 : (if al (hA m i r) nC = true then kst c st r else st) = st := by split <;> simp [kst, hn]
      rw [if_pos hn, e1]
      exact ih (x + 1) n st M (by omega) (by omega) hG hD hR h121 h6 (by omega)
    · rw [if_neg hn]
      cases hal : al (hA m i r) nC with
      | false =>
        rw [if_pos rfl, if_neg (by decide)]
        exact ih (x + 1) n st M (by omega) (by omega) hG hD hR h121 h6 (by omega)
      | true =>
        rw [if_neg (by decide), if_pos rfl]
        cases hk : kin st.1 (cel r c) 0 st.2 with
        | true =>
          have e1 : kst c st r = st := by simp [kst, hk]
          rw [if_neg (by decide), e1]
          exact ih (x + 1) n st M (by omega) (by omega) hG hD hR h121 h6 (by omega)
        | false =>
          have e1 : kst c st r = (upd (shk 1 st.1 (pl st.1 (cel r c) st.2) st.2) (pl st.1 (cel r c) st.2) (cel r c), st.2 + 1) := by simp [kst, hk, hn]
          have hq := pl_le (f := st.1) (m := cel r c) (n := st.2)
          rw [if_pos rfl]
          have e := mkeysL (fu := fu) (M := M) (f := M 48) (v := cel r c) (k := st.2) (by omega) (kk := fun (x5_20 : Int32) (M_21 : Mem) => grd (inb x5_20 12) (f_X11_laysKeys_L7 fu (nI i) (nI c) n (nI (x + 1)) (up (up M_21 48 x5_20.toNatClampNeg (cel r c)) 0 63 (up M_21 48 x5_20.toNatClampNeg (cel r c) 0 63 + nI 1)))) st.2 fu (Nat.le_refl _) (by omega)
          rw [shk_0, row_self, h121] at e
          rw [e]
          simp (disch := omega) only [inb_nI, grd_true, nI_clamp, up_n, row_n, h6, nI_add]
          rw [up_row (i := 48), row_s, row_row]
          have hle := kst_le (c := c) (st := st) (r := r)
          have fD : DS (up (row M 48 (upd (shk 1 st.1 (pl st.1 (cel r c) st.2) st.2) (pl st.1 (cel r c) st.2) (cel r c))) 0 63 (nI (st.2 + 1))) M := ⟨fun a h1 h2 => by rw [up_n (by omega), row_n (by omega)], fun j h1 h2 => by rw [up_m (by omega), row_n (by omega)]⟩
          obtain ⟨N, g1, g2, g3, g4, g5⟩ := ih (x + 1) n (kst c st r) (up (row M 48 (upd (shk 1 st.1 (pl st.1 (cel r c) st.2) st.2) (pl st.1 (cel r c) st.2) (cel r c))) 0 63 (nI (st.2 + 1))) (by omega) (by omega) (hG.cg fD) (fD.trans hD)
            (hR.cg (by rw [up_n (by omega), row_n (by omega)]) (by rw [up_n (by omega), row_n (by omega)]) (by rw [up_n (by omega), row_n (by omega)]))
            (by rw [up_n (by omega), row_s, e1]) (by rw [up_s, e1]) (by omega)
          exact ⟨N, g1, g2, g3, fun a h1 h2 => by rw [g4 a h1 h2, up_n h1, row_n h2], fun k hk => by rw [g5 k hk, up_m hk, row_n (by omega)]⟩
theorem mlays_eq (hfu : 5000 ≤ fu) (hi : i < 3) (hc : c < 4) (hok : okR A) (hG : DG m nS nL nC nO) (hR : RS m i A) : ∃ N, f_X11_laysKeys fu (nI i) (nI c) m = some N ∧ N 48 = ((A.filter (fun r => al (hA m i r) nC)).foldl (kst c) (m 48, 0)).1 ∧ N 0 63 = nI ((A.filter (fun r => al (hA m i r) nC)).foldl (kst c) (m 48, 0)).2 ∧ (∀ a, a ≠ 0 → a ≠ 48 → N a = m a) ∧ ∀ k, k ≠ 63 → N 0 k = m 0 k := by
  have h12 := hR.2.1
  have fD : DS (up m 0 63 (nI 0)) m := ⟨fun a h1 h2 => by rw [up_n (by omega)], fun j h1 h2 => by rw [up_m (by omega)]⟩
  obtain ⟨N, g1, g2, g3, g4, g5⟩ := mlaysL (fu := fu) (m := m) hfu hi hc hok A.length 0 fu (m 48, 0) (up m 0 63 (nI 0)) (by omega) (by omega) (hG.cg fD) fD (hR.cg (by rw [up_n (by omega)]) (by rw [up_n (by omega)]) (by rw [up_n (by omega)])) (by rw [up_n (by omega)]) up_s (by simp)
  rw [List.drop_zero] at g2 g3
  refine ⟨N, g1, ?_, ?_, fun a h1 h2 => by rw [g4 a h1 h2, up_n h1], fun k hk => by rw [g5 k hk, up_m hk]⟩
  · rw [g2, List.foldl_filter]
  · rw [g3, List.foldl_filter]
end Keys
