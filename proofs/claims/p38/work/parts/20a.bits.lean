/-! ===== bits of longs (starting texts out of the laws) ===== -/
theorem wb_tb (n : Nat) : (lN n).toBitVec = BitVec.ofNat 64 n := rfl
theorem wb_inj {a b : Int64} (h : a.toBitVec = b.toBitVec) : a = b := Int64.toBitVec_inj.mp h
theorem wb_c : ∀ k, k < 64 → ((nI k).toInt64 &&& 63) = lN k := by decide +kernel
theorem wb_sm : ∀ k, k < 64 → (BitVec.ofNat 64 k).smod 64 = BitVec.ofNat 64 k := by decide +kernel
theorem wb_shl (n : Nat) {k : Nat} (hk : k < 64) : lN n <<< ((nI k).toInt64 &&& 63) = lN (n * 2 ^ k) := by
  rw [wb_c k hk]
  apply wb_inj
  rw [Int64.toBitVec_shiftLeft, wb_tb, wb_tb, wb_tb, wb_sm k hk]
  apply BitVec.eq_of_toNat_eq
  rw [BitVec.shiftLeft_eq', BitVec.toNat_shiftLeft, BitVec.toNat_ofNat, BitVec.toNat_ofNat, BitVec.toNat_ofNat, Nat.mod_eq_of_lt (show k < 2 ^ 64 by omega), Nat.shiftLeft_eq, Nat.mul_mod, Nat.mod_mod, ← Nat.mul_mod]
theorem pf_lI {a : Nat} (h : a < 2 ^ 63) : (lN a).toInt = (a : Int) := lg_ofNat_toInt h
theorem pf_shr {a d : Nat} {D : Int64} (hD : (D.toBitVec.smod 64).toNat = d) (h : a < 2 ^ 62) : lN a >>> D = lN (a / 2 ^ d) := by
  have hd : a / 2 ^ d ≤ a := Nat.div_le_self _ _
  apply Int64.toInt_inj.mp
  have e : (lN a >>> D).toInt = (lN a).toInt >>> d := by
    rw [← hD]
    exact BitVec.toInt_sshiftRight ..
  rw [e, Int.shiftRight_eq_div_pow, pf_lI (by omega), pf_lI (by omega)]
  rfl
theorem fb_andL (a b : Nat) : lN a &&& lN b = lN (a &&& b) := by
  apply Int64.toBitVec_inj.1
  show BitVec.ofNat 64 a &&& BitVec.ofNat 64 b = BitVec.ofNat 64 (a &&& b)
  apply BitVec.eq_of_getLsbD_eq
  intro i hi
  simp [hi]
theorem fb_orL (a b : Nat) : lN a ||| lN b = lN (a ||| b) := by
  apply Int64.toBitVec_inj.1
  show BitVec.ofNat 64 a ||| BitVec.ofNat 64 b = BitVec.ofNat 64 (a ||| b)
  apply BitVec.eq_of_getLsbD_eq
  intro i hi
  simp [hi]
theorem fb_xorL (a b : Nat) : lN a ^^^ lN b = lN (a ^^^ b) := by
  apply Int64.toBitVec_inj.1
  show BitVec.ofNat 64 a ^^^ BitVec.ofNat 64 b = BitVec.ofNat 64 (a ^^^ b)
  apply BitVec.eq_of_getLsbD_eq
  intro i hi
  simp [hi]
theorem fb_maskL (n k : Nat) : lN n &&& lN (2 ^ k - 1) = lN (n % 2 ^ k) := by rw [fb_andL, Nat.and_two_pow_sub_one_eq_mod]
theorem fb_or_sumL {a k : Nat} (b : Nat) (h : a < 2 ^ k) : lN (2 ^ k * b) ||| lN a = lN (2 ^ k * b + a) := by rw [fb_orL, Nat.two_pow_add_eq_or_of_lt h]
theorem fb_lN_inj {a b : Nat} (ha : a < 2 ^ 63) (hb : b < 2 ^ 63) : lN a = lN b ↔ a = b := by
  constructor
  · intro h
    have h1 : (BitVec.ofNat 64 a).toNat = (BitVec.ofNat 64 b).toNat := congrArg (fun x : Int64 => x.toBitVec.toNat) h
    rw [BitVec.toNat_ofNat, BitVec.toNat_ofNat, Nat.mod_eq_of_lt (by omega), Nat.mod_eq_of_lt (by omega)] at h1
    exact h1
  · rintro rfl; rfl
/-! ===== rows as longs ===== -/
def cd (v : Int32) : Nat := if v = 5000 then 2000 else if v = 5001 then 2001 else (v.toInt + 1000).toNat
def dec (x : Nat) : Int32 := if x = 2000 then 5000 else if x = 2001 then 5001 else nI x - 1000
theorem cd_num {v : Int32} (h1 : -999 ≤ v) (h2 : v ≤ 999) : v + 1000 = nI (cd v) ∧ cd v = (v.toInt + 1000).toNat ∧ cd v < 2000 ∧ nI (cd v) - 1000 = v := by
  have a1 : -999 ≤ v.toInt := by rw [i_le] at h1; exact h1
  have a2 : v.toInt ≤ 999 := by rw [i_le] at h2; exact h2
  have e5 : v ≠ 5000 := fun e => by rw [e] at a2; exact absurd a2 (by decide)
  have e6 : v ≠ 5001 := fun e => by rw [e] at a2; exact absurd a2 (by decide)
  have e : cd v = (v.toInt + 1000).toNat := by unfold cd; rw [if_neg e5, if_neg e6]
  have e7 : v + 1000 = nI (cd v) := by
    rw [e, i_eq, nI_toInt (by omega), Int32.toInt_add]
    rw [show (1000 : Int32).toInt = 1000 by decide, Int.bmod_eq_of_le (by omega) (by omega)]
    omega
  refine ⟨e7, e, by omega, ?_⟩
  rw [← e7]
  grind
theorem code_eq {v : Int32} (h : okc v) : f_L_code v = nI (cd v) ∧ cd v < 2002 ∧ dec (cd v) = v := by
  rcases h with rfl | rfl | ⟨h1, h2⟩
  · refine ⟨by decide, by decide, by decide⟩
  · refine ⟨by decide, by decide, by decide⟩
  · obtain ⟨e1, e2, e3, e4⟩ := cd_num h1 h2
    have e5 : v ≠ 5000 := by grind
    have e6 : v ≠ 5001 := by grind
    refine ⟨?_, by omega, ?_⟩
    · unfold f_L_code
      rw [if_neg e5, if_neg e6, e1]
    · unfold dec
      rw [if_neg (by omega), if_neg (by omega), e4]
def pkN (m a b c d : Nat) : Nat := 2 ^ 48 * m + (2 ^ 36 * a + (2 ^ 24 * b + (2 ^ 12 * c + d)))
def pk (r : Row) : Int64 := f_L_packed r.1 r.2.1 r.2.2.1 r.2.2.2.1 r.2.2.2.2
def okm (m : Int32) : Prop := ∃ k, k < 100 ∧ m = nI k
theorem pkN_eq {m a b c d : Nat} (ha : a < 4096) (hb : b < 4096) (hc : c < 4096) (hd : d < 4096) : ((((lN m <<< ((nI 48).toInt64 &&& 63)) ||| (lN a <<< ((nI 36).toInt64 &&& 63))) ||| (lN b <<< ((nI 24).toInt64 &&& 63))) ||| (lN c <<< ((nI 12).toInt64 &&& 63))) ||| lN d = lN (pkN m a b c d) := by
  rw [wb_shl m (by omega), wb_shl a (by omega), wb_shl b (by omega), wb_shl c (by omega)]
  rw [show m * 2 ^ 48 = 2 ^ 48 * m by omega, show a * 2 ^ 36 = 2 ^ 36 * a by omega, show b * 2 ^ 24 = 2 ^ 24 * b by omega, show c * 2 ^ 12 = 2 ^ 12 * c by omega]
  rw [fb_or_sumL m (show 2 ^ 36 * a < 2 ^ 48 by omega), show 2 ^ 48 * m + 2 ^ 36 * a = 2 ^ 36 * (2 ^ 12 * m + a) by omega, fb_or_sumL _ (show 2 ^ 24 * b < 2 ^ 36 by omega), show 2 ^ 36 * (2 ^ 12 * m + a) + 2 ^ 24 * b = 2 ^ 24 * (2 ^ 12 * (2 ^ 12 * m + a) + b) by omega, fb_or_sumL _ (show 2 ^ 12 * c < 2 ^ 24 by omega), show 2 ^ 24 * (2 ^ 12 * (2 ^ 12 * m + a) + b) + 2 ^ 12 * c = 2 ^ 12 * (2 ^ 12 * (2 ^ 12 * (2 ^ 12 * m + a) + b) + c) by omega, fb_or_sumL _ (show d < 2 ^ 12 by omega)]
  congr 1
  unfold pkN
  omega
theorem pkr_eq {r : Row} {k : Nat} (hm : r.1 = nI k) (hk : k < 100) (hr : ∀ c, c < 4 → okc (cel r c)) : pk r = lN (pkN k (cd r.2.1) (cd r.2.2.1) (cd r.2.2.2.1) (cd r.2.2.2.2)) := by
  have h0 := code_eq (hr 0 (by omega))
  have h1 := code_eq (hr 1 (by omega))
  have h2 := code_eq (hr 2 (by omega))
  have h3 := code_eq (hr 3 (by omega))
  simp only [cel] at h0 h1 h2 h3
  unfold pk f_L_packed
  rw [hm]
  rw [show f_L_code r.2.1 = nI (cd r.2.1) from h0.1, show f_L_code r.2.2.1 = nI (cd r.2.2.1) from h1.1, show f_L_code r.2.2.2.1 = nI (cd r.2.2.2.1) from h2.1, show f_L_code r.2.2.2.2 = nI (cd r.2.2.2.2) from h3.1]
  rw [nI_l (show k < 2 ^ 31 by omega), nI_l (show cd r.2.1 < 2 ^ 31 from Nat.lt_trans h0.2.1 (by decide)), nI_l (show cd r.2.2.1 < 2 ^ 31 from Nat.lt_trans h1.2.1 (by decide)), nI_l (show cd r.2.2.2.1 < 2 ^ 31 from Nat.lt_trans h2.2.1 (by decide)), nI_l (show cd r.2.2.2.2 < 2 ^ 31 from Nat.lt_trans h3.2.1 (by decide))]
  exact pkN_eq (Nat.lt_trans h0.2.1 (by decide)) (Nat.lt_trans h1.2.1 (by decide)) (Nat.lt_trans h2.2.1 (by decide)) (Nat.lt_trans h3.2.1 (by decide))
theorem at_N {n x : Nat} (hn : n < 2 ^ 62) {c s : Nat} (hs : (36 - 12 * nI c).toInt64 &&& 63 = (nI s).toInt64 &&& 63) (hsD : (((nI s).toInt64 &&& 63).toBitVec.smod 64).toNat = s) (hx : n / 2 ^ s % 4096 = x) : f_L_at (lN n) (nI c) = dec x := by
  unfold f_L_at
  rw [hs, pf_shr hsD hn, show (4095 : Int64) = lN (2 ^ 12 - 1) from rfl, fb_maskL, lN_i, hx]
  have hx2 : x < 4096 := by rw [← hx]; exact Nat.mod_lt _ (by decide)
  simp only [nm_d]
  unfold dec
  by_cases h1 : x = 2000
  · subst h1; decide
  · rw [if_neg (show ¬ nI x = (2000 : Int32) from fun e => h1 ((nI_eq (by omega) (by omega)).mp (show nI x = nI 2000 from e))), if_neg h1]
    by_cases h2 : x = 2001
    · subst h2; decide
    · rw [if_neg (show ¬ nI x = (2001 : Int32) from fun e => h2 ((nI_eq (by omega) (by omega)).mp (show nI x = nI 2001 from e))), if_neg h2]
theorem at_pk {r : Row} {c : Nat} (hm : okm r.1) (hr : ∀ c, c < 4 → okc (cel r c)) (hc : c < 4) : f_L_at (pk r) (nI c) = cel r c := by
  obtain ⟨k, hk, hm⟩ := hm
  have h0 := code_eq (hr 0 (by omega))
  have h1 := code_eq (hr 1 (by omega))
  have h2 := code_eq (hr 2 (by omega))
  have h3 := code_eq (hr 3 (by omega))
  rw [pkr_eq hm hk hr]
  simp only [cel] at h0 h1 h2 h3
  obtain ⟨-, l0, d0⟩ := h0
  obtain ⟨-, l1, d1⟩ := h1
  obtain ⟨-, l2, d2⟩ := h2
  obtain ⟨-, l3, d3⟩ := h3
  have hN : pkN k (cd r.2.1) (cd r.2.2.1) (cd r.2.2.2.1) (cd r.2.2.2.2) < 2 ^ 62 := by unfold pkN; simp at l0 l1 l2 l3; omega
  simp at l0 l1 l2 l3
  have h4 : c = 0 ∨ c = 1 ∨ c = 2 ∨ c = 3 := by omega
  rcases h4 with rfl | rfl | rfl | rfl
  · rw [at_N (s := 36) (x := cd r.2.1) hN (by decide) (by decide) (by unfold pkN; omega)]; exact d0
  · rw [at_N (s := 24) (x := cd r.2.2.1) hN (by decide) (by decide) (by unfold pkN; omega)]; exact d1
  · rw [at_N (s := 12) (x := cd r.2.2.2.1) hN (by decide) (by decide) (by unfold pkN; omega)]; exact d2
  · rw [at_N (s := 0) (x := cd r.2.2.2.2) hN (by decide) (by decide) (by unfold pkN; omega)]; exact d3
theorem mark_pk {r : Row} (hm : okm r.1) (hr : ∀ c, c < 4 → okc (cel r c)) : f_L_markOf (pk r) = r.1 := by
  obtain ⟨k, hk, hm⟩ := hm
  have l0 := (code_eq (hr 0 (by omega))).2.1
  have l1 := (code_eq (hr 1 (by omega))).2.1
  have l2 := (code_eq (hr 2 (by omega))).2.1
  have l3 := (code_eq (hr 3 (by omega))).2.1
  rw [pkr_eq hm hk hr, hm]
  simp [cel] at l0 l1 l2 l3
  unfold f_L_markOf
  rw [pf_shr (d := 48) (by decide) (by unfold pkN; omega), lN_i]
  congr 1
  unfold pkN
  omega
theorem nand_N {h m l s : Nat} (hs : s ≤ 40) (hm : m < 4096) (hl : l < 2 ^ s) (hh : h < 2 ^ (64 - (s + 12))) : (2 ^ (s + 12) * h + (2 ^ s * m + l)) &&& (4095 * 2 ^ s ^^^ (2 ^ 64 - 1)) = 2 ^ (s + 12) * h + l := by
  have hml : 2 ^ s * m + l < 2 ^ (s + 12) := by
    rw [Nat.pow_add]
    have : 2 ^ s * m + 2 ^ s ≤ 2 ^ s * 4096 := by rw [← Nat.mul_succ]; exact Nat.mul_le_mul_left _ hm
    omega
  have hl2 : l < 2 ^ (s + 12) := Nat.lt_of_le_of_lt (Nat.le_add_left _ _) hml
  apply Nat.eq_of_testBit_eq
  intro i
  rw [Nat.testBit_and, Nat.testBit_xor, Nat.testBit_two_pow_sub_one, Nat.testBit_two_pow_mul_add _ hml, Nat.testBit_two_pow_mul_add _ hl2, Nat.testBit_two_pow_mul_add _ hl, show 4095 * 2 ^ s = 2 ^ s * 4095 + 0 by omega, Nat.testBit_two_pow_mul_add _ (Nat.two_pow_pos s)]
  by_cases h1 : i < s
  · simp [h1, show i < s + 12 by omega, show i < 64 by omega]
  by_cases h2 : i < s + 12
  · have h3 : (4095 : Nat).testBit (i - s) = true := (by decide : ∀ j, j < 12 → (4095 : Nat).testBit j = true) _ (by omega)
    have h4 : l.testBit i = false := Nat.testBit_lt_two_pow (Nat.lt_of_lt_of_le hl (Nat.pow_le_pow_right (by decide) (by omega)))
    simp [h1, h2, h3, h4, show i < 64 by omega]
  have h3 : (4095 : Nat).testBit (i - s) = false := Nat.testBit_lt_two_pow (Nat.lt_of_lt_of_le (show 4095 < 2 ^ 12 by decide) (Nat.pow_le_pow_right (by decide) (by omega)))
  by_cases h64 : i < 64
  · simp [h1, h2, h3, h64]
  · have h4 : h.testBit (i - (s + 12)) = false := Nat.testBit_lt_two_pow (Nat.lt_of_lt_of_le hh (Nat.pow_le_pow_right (by decide) (by omega)))
    simp [h1, h2, h3, h4]
theorem with_N {h m l s v c : Nat} (hs : s ≤ 36) (hm : m < 4096) (hl : l < 2 ^ s) (hh : h < 2 ^ (62 - (s + 12))) (hv : v < 4096) (e1 : (36 - 12 * nI c).toInt64 &&& 63 = (nI s).toInt64 &&& 63) {w : Int32} (hw : f_L_code w = nI v) : f_L_with (lN (2 ^ (s + 12) * h + (2 ^ s * m + l))) (nI c) w = lN (2 ^ (s + 12) * h + (2 ^ s * v + l)) := by
  have hh2 : h < 2 ^ (64 - (s + 12)) := Nat.lt_of_lt_of_le hh (Nat.pow_le_pow_right (by decide) (by omega))
  unfold f_L_with
  simp only [nm_d]
  rw [e1, hw, nI_l (show v < 2 ^ 31 by omega), show (4095 : Int64) = lN 4095 from rfl, wb_shl 4095 (show s < 64 by omega), wb_shl v (show s < 64 by omega), show (-1 : Int64) = lN (2 ^ 64 - 1) by decide, fb_xorL, fb_andL, nand_N (by omega) hm hl hh2]
  have hvl : 2 ^ s * v + l < 2 ^ (s + 12) := by
    rw [Nat.pow_add]
    have : 2 ^ s * v + 2 ^ s ≤ 2 ^ s * 4096 := by rw [← Nat.mul_succ]; exact Nat.mul_le_mul_left _ hv
    omega
  rw [fb_orL]
  congr 1
  apply Nat.eq_of_testBit_eq
  intro i
  have hl2 : l < 2 ^ (s + 12) := by have := Nat.le_add_left l (2 ^ s * v); omega
  rw [Nat.testBit_or, Nat.testBit_two_pow_mul_add _ hl2, Nat.testBit_two_pow_mul_add _ hvl, Nat.testBit_two_pow_mul_add _ hl, show v * 2 ^ s = 2 ^ s * v + 0 by rw [Nat.mul_comm, Nat.add_zero], Nat.testBit_two_pow_mul_add _ (Nat.two_pow_pos s)]
  by_cases h1 : i < s
  · simp [h1, show i < s + 12 by omega]
  by_cases h2 : i < s + 12
  · have h4 : l.testBit i = false := Nat.testBit_lt_two_pow (Nat.lt_of_lt_of_le hl (Nat.pow_le_pow_right (by decide) (by omega)))
    simp [h1, h2, h4]
  · have h3 : v.testBit (i - s) = false := Nat.testBit_lt_two_pow (Nat.lt_of_lt_of_le (show v < 2 ^ 12 by omega) (Nat.pow_le_pow_right (by decide) (by omega)))
    simp [h1, h2, h3]
theorem with_pk {r : Row} {c : Nat} {v : Int32} (hm : okm r.1) (hr : ∀ c, c < 4 → okc (cel r c)) (hc : c < 4) (hv : okc v) : f_L_with (pk r) (nI c) v = pk (setc r c v) := by
  obtain ⟨k, hk, hm⟩ := hm
  have l0 := (code_eq (hr 0 (by omega))).2.1
  have l1 := (code_eq (hr 1 (by omega))).2.1
  have l2 := (code_eq (hr 2 (by omega))).2.1
  have l3 := (code_eq (hr 3 (by omega))).2.1
  obtain ⟨e, lv, -⟩ := code_eq hv
  have hs : ∀ c', c' < 4 → okc (cel (setc r c v) c') := fun c' hc' => by
    rw [setc_at hc hc']
    split
    · exact hv
    · exact hr c' hc'
  rw [pkr_eq hm hk hr, pkr_eq (r := setc r c v) hm hk hs]
  simp [cel] at l0 l1 l2 l3
  have h4 : c = 0 ∨ c = 1 ∨ c = 2 ∨ c = 3 := by omega
  unfold pkN
  rcases h4 with rfl | rfl | rfl | rfl
  · have := with_N (h := k) (m := cd r.2.1) (l := 2 ^ 24 * cd r.2.2.1 + (2 ^ 12 * cd r.2.2.2.1 + cd r.2.2.2.2)) (s := 36) (v := cd v) (c := 0) (by omega) (by omega) (by omega) (by omega) (by omega) (by decide) e
    simp only [setc] at this ⊢
    exact this
  · have := with_N (h := 2 ^ 12 * k + cd r.2.1) (m := cd r.2.2.1) (l := 2 ^ 12 * cd r.2.2.2.1 + cd r.2.2.2.2) (s := 24) (v := cd v) (c := 1) (by omega) (by omega) (by omega) (by omega) (by omega) (by decide) e
    simp only [setc]
    rw [show 2 ^ 48 * k + (2 ^ 36 * cd r.2.1 + (2 ^ 24 * cd r.2.2.1 + (2 ^ 12 * cd r.2.2.2.1 + cd r.2.2.2.2))) = 2 ^ (24 + 12) * (2 ^ 12 * k + cd r.2.1) + (2 ^ 24 * cd r.2.2.1 + (2 ^ 12 * cd r.2.2.2.1 + cd r.2.2.2.2)) by omega, this]
    congr 1
    simp
    omega
  · have := with_N (h := 2 ^ 24 * k + (2 ^ 12 * cd r.2.1 + cd r.2.2.1)) (m := cd r.2.2.2.1) (l := cd r.2.2.2.2) (s := 12) (v := cd v) (c := 2) (by omega) (by omega) (by omega) (by omega) (by omega) (by decide) e
    simp only [setc]
    rw [show 2 ^ 48 * k + (2 ^ 36 * cd r.2.1 + (2 ^ 24 * cd r.2.2.1 + (2 ^ 12 * cd r.2.2.2.1 + cd r.2.2.2.2))) = 2 ^ (12 + 12) * (2 ^ 24 * k + (2 ^ 12 * cd r.2.1 + cd r.2.2.1)) + (2 ^ 12 * cd r.2.2.2.1 + cd r.2.2.2.2) by omega, this]
    congr 1
    simp
    omega
  · have := with_N (h := 2 ^ 36 * k + (2 ^ 24 * cd r.2.1 + (2 ^ 12 * cd r.2.2.1 + cd r.2.2.2.1))) (m := cd r.2.2.2.2) (l := 0) (s := 0) (v := cd v) (c := 3) (by omega) (by omega) (by omega) (by omega) (by omega) (by decide) e
    simp only [setc]
    rw [show 2 ^ 48 * k + (2 ^ 36 * cd r.2.1 + (2 ^ 24 * cd r.2.2.1 + (2 ^ 12 * cd r.2.2.2.1 + cd r.2.2.2.2))) = 2 ^ (0 + 12) * (2 ^ 36 * k + (2 ^ 24 * cd r.2.1 + (2 ^ 12 * cd r.2.2.1 + cd r.2.2.2.1))) + (2 ^ 0 * cd r.2.2.2.2 + 0) by omega, this]
    congr 1
    simp
    omega
/-! ===== numbers out of the script ===== -/
theorem low_eq {fu : Nat} {v : Int32} {n : Nat} {M : Mem} (hn : 0 < n) (hn2 : n < 2 ^ 30) : ∃ k, k < n ∧ f_L_low fu v (nI n) M = some (nI k) := by
  obtain ⟨j, hj, e⟩ : ∃ j, j < 2 ^ 31 ∧ ((v.toUInt32 >>> ((1 : Int32).toUInt32 &&& Int32.toUInt32 31)).toInt32) = nI j := by
    have h : (v.toUInt32 >>> ((1 : Int32).toUInt32 &&& Int32.toUInt32 31)).toNat < 2 ^ 31 := by
      rw [UInt32.toNat_shiftRight]
      have h1 : (((1 : Int32).toUInt32 &&& Int32.toUInt32 31).toNat % 32) = 1 := by decide
      rw [h1, Nat.shiftRight_eq_div_pow]
      have := v.toUInt32.toNat_lt
      omega
    refine ⟨_, h, ?_⟩
    generalize (v.toUInt32 >>> ((1 : Int32).toUInt32 &&& Int32.toUInt32 31)) = x
    apply Int32.toBitVec_inj.mp
    show x.toBitVec = BitVec.ofNat 32 x.toNat
    apply BitVec.eq_of_toNat_eq
    rw [BitVec.toNat_ofNat]
    have := x.toNat_lt
    exact (Nat.mod_eq_of_lt this).symm
  refine ⟨j % n, Nat.mod_lt _ hn, ?_⟩
  unfold f_L_low
  have hz : nz (nI n) = true := by
    unfold nz
    simp only [Bool.not_eq_true', decide_eq_false_iff_not]
    exact nI_ne0 hn (by omega)
  rw [grd_t hz, e, pk_rem hj hn (by omega)]
theorem cellBy_eq {fu : Nat} {v : Int32} {M : Mem} : ∃ w, okc w ∧ f_L_cellBy fu v M = some w := by
  unfold f_L_cellBy
  obtain ⟨k, hk, e⟩ := low_eq (fu := fu) (v := v) (n := 12) (M := M) (by omega) (by omega)
  rw [show (12 : Int32) = nI 12 from rfl, e, bd_some]
  obtain ⟨k1, hk1, e1⟩ := low_eq (fu := fu) (v := v >>> (4 &&& 31)) (n := 1999) (M := M) (by omega) (by omega)
  obtain ⟨k2, hk2, e2⟩ := low_eq (fu := fu) (v := v >>> (4 &&& 31)) (n := 5) (M := M) (by omega) (by omega)
  obtain ⟨k3, hk3, e3⟩ := low_eq (fu := fu) (v := v >>> (4 &&& 31)) (n := 6) (M := M) (by omega) (by omega)
  rw [show (1999 : Int32) = nI 1999 from rfl, show (5 : Int32) = nI 5 from rfl, show (6 : Int32) = nI 6 from rfl, e1, e2, e3]
  simp only [bd_some]
  have okn : ∀ x : Int32, -999 ≤ x.toInt → x.toInt ≤ 999 → okc x := fun x h1 h2 => Or.inr (Or.inr ⟨by rw [i_le]; exact h1, by rw [i_le]; exact h2⟩)
  have t1 := pk_sub_toInt (a := k1) (b := 999) (by omega) (by omega)
  have t2 : (nI (100 + k2)).toInt = ((100 + k2 : Nat) : Int) := nI_toInt (by omega)
  have t3 := pk_sub_toInt (a := k3) (b := 3) (by omega) (by omega)
  have t4 := pk_sub_toInt (a := k3) (b := 0) (by omega) (by omega)
  split
  · exact ⟨5000, Or.inl rfl, rfl⟩
  split
  · exact ⟨5001, Or.inr (Or.inl rfl), rfl⟩
  split
  · exact ⟨_, okn _ (by show -999 ≤ (nI k1 - nI 999).toInt; rw [t1]; omega) (by show (nI k1 - nI 999).toInt ≤ 999; rw [t1]; omega), rfl⟩
  split
  · exact ⟨_, okn _ (by show -999 ≤ (nI 100 + nI k2).toInt; rw [nI_add, t2]; omega) (by show (nI 100 + nI k2).toInt ≤ 999; rw [nI_add, t2]; omega), rfl⟩
  split
  · exact ⟨_, okn _ (by show -999 ≤ (nI k3 - nI 3).toInt; rw [t3]; omega) (by show (nI k3 - nI 3).toInt ≤ 999; rw [t3]; omega), rfl⟩
  · exact ⟨_, okn _ (by show -999 ≤ (nI k3 - nI 0).toInt; rw [t4]; omega) (by show (nI k3 - nI 0).toInt ≤ 999; rw [t4]; omega), rfl⟩
