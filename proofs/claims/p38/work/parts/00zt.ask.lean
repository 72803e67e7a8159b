/-! ===== a query is asked: both ===== -/
def LA (M m : Mem) : Prop := (∃ k cols, k ≤ 40 ∧ cols ≤ 3 ∧ M 90 5 = nI k ∧ m 0 75 = nI k ∧ M 90 6 = nI cols ∧ m 0 76 = nI cols ∧ ∀ x c, x < k → c < cols → M 91 (3 * x + c) = m 56 (3 * x + c)) ∧ M 90 7 = m 0 78 ∧ M 90 8 = m 0 79 ∧ M 90 9 = m 0 80 ∧ M 90 10 = m 0 81 ∧ M 90 11 = m 0 82 ∧ ∃ p, p ≤ 3 ∧ M 90 12 = nI p ∧ m 0 83 = nI p ∧ ∀ x, x < p → ∃ s h, s < 3 ∧ h < 4 ∧ M 93 x = nI s ∧ M 94 x = nI h ∧ m 57 x = nI (10 * s + h)
def mxN (f : Nat → Nat) : Nat → Nat
  | 0 => 0
  | s + 1 => max (mxN f s) (f s)
def mnN (f : Nat → Nat) (u : Nat) : Nat → Nat
  | 0 => u
  | s + 1 => min (mnN f u s) (f s)
section Ask
variable {fu nS nL nC nO i j s t u e p c fr t0 dl c0 sc o : Nat} {M m N n : Mem} {RR : Nat → List Row} {tk : Nat → Bool} {sn un : Nat → Nat}
theorem beginL {k : Mem → Option Mem} : ∀ d x n (M : Mem), x + d = 3 → d < n → (∀ j, j < x → RC M (96 + 3 * j) []) → ∃ N, f_X0_begin_L2 fu 90 k n (nI x) M = k N ∧ (∀ j, j < 3 → RC N (96 + 3 * j) []) ∧ (∀ a, a ≠ 96 → a ≠ 99 → a ≠ 102 → N a = M a) := by
  intro d
  induction d with
  | zero =>
    intro x n M h1 h2 h3
    obtain ⟨n, rfl⟩ := fu1 h2
    obtain rfl : x = 3 := by omega
    exact ⟨M, by simp (disch := omega) only [f_X0_begin_L2, lit, nI_add, pk_mul, pk_sub, nI_clamp, inb_nI, nI_leI, nI_ltI, nI_eq, add_m1, ↓reduceIte, grd_true, nm_d, jn_d, bd_some, bm_some, om_some, om_none, Nat.le_refl], h3, fun _ _ _ _ => rfl⟩
  | succ d ih =>
    intro x n M h1 h2 h3
    obtain ⟨n, rfl⟩ := fu1 h2
    have h4 : ¬ 3 ≤ x := by omega
    obtain ⟨N, g1, g2, g3⟩ := ih (x + 1) n (up M (96 + 3 * x) 2 (nI 0)) (by omega) (by omega) (fun j hj => by
      by_cases hjx : j = x
      · rw [hjx]; exact ⟨up_s, by simp, fun k r hr => by simp at hr⟩
      · exact (h3 j (by omega)).cg (by rw [up_n (by omega)]) (by rw [up_n (by omega)]) (by rw [up_n (by omega)]))
    refine ⟨N, ?_, g2, fun a z1 z2 z3 => by rw [g3 a z1 z2 z3, up_n (by omega)]⟩
    rw [← g1]
    simp (disch := omega) only [f_X0_begin_L2, lit, nI_add, pk_mul, pk_sub, nI_clamp, inb_nI, nI_leI, nI_ltI, nI_eq, add_m1, ↓reduceIte, grd_true, nm_d, jn_d, bd_some, bm_some, om_some, om_none, h4, Nat.reduceAdd]
theorem begin_eq {p1 p2 p3 : Int32} (hfu : 5000 ≤ fu) : ∃ N, f_X1_begin fu p1 p2 p3 M = some N ∧ (∀ j, j < 3 → RC N (96 + 3 * j) []) ∧ (∀ a, a ≠ 96 → a ≠ 99 → a ≠ 102 → a ≠ 90 → a ≠ 120 → N a = M a) ∧ N 120 7 = p1 ∧ N 120 8 = p2 ∧ N 120 9 = 0 ∧ N 120 10 = p3 ∧ N 90 7 = 0 ∧ N 90 9 = 0 ∧ N 90 10 = 0 ∧ N 90 11 = 0 ∧ N 90 12 = 0 := by
  obtain ⟨P, g1, g2, g3⟩ := beginL (fu := fu) (k := fun (M_2 : Mem) => nm (up M_2 90 7 0) (fun M_3 => nm (up M_3 90 9 0) (fun M_4 => nm (up M_4 90 10 0) (fun M_5 => nm (up M_5 90 11 0) (fun M_6 => nm (up M_6 90 12 0) (fun M_7 => some M_7)))))) 3 0 fu (up (up (up (up M 120 7 p1) 120 8 p2) 120 9 0) 120 10 p3) (by omega) (by omega) (fun j hj => by omega)
  have e0 : f_X1_begin fu p1 p2 p3 M = some (up (up (up (up (up P 90 7 0) 90 9 0) 90 10 0) 90 11 0) 90 12 0) := by
    have e1 : f_X0_begin fu 90 (up (up (up (up M 120 7 p1) 120 8 p2) 120 9 0) 120 10 p3) = some (up (up (up (up (up P 90 7 0) 90 9 0) 90 10 0) 90 11 0) 90 12 0) := g1
    simp only [f_X1_begin, nm_d, e1, bd_some]
  refine ⟨_, e0, fun j hj => (g2 j hj).cg ?_ ?_ ?_, fun a z1 z2 z3 z4 z5 => ?_, ?_, ?_, ?_, ?_, ?_, ?_, ?_, ?_, ?_⟩
  · simp (disch := omega) only [up_n]
  · simp (disch := omega) only [up_n]
  · simp (disch := omega) only [up_n]
  · simp (disch := omega) only [up_n]
    rw [g3 a z1 z2 z3]
    simp (disch := omega) only [up_n]
  · simp (disch := omega) only [up_n, g3, up_m, up_s]
  · simp (disch := omega) only [up_n, g3, up_m, up_s]
  · simp (disch := omega) only [up_n, g3, up_m, up_s]
  · simp (disch := omega) only [up_n, g3, up_m, up_s]
  · simp (disch := omega) only [up_m, up_s]
  · simp (disch := omega) only [up_m, up_s]
  · simp (disch := omega) only [up_m, up_s]
  · simp (disch := omega) only [up_m, up_s]
  · simp (disch := omega) only [up_s]
theorem SA.base (h : SA M m t u nS nL nC nO RR t0 dl fr c0 sc tk p o sn un) : DR M m ∧ DG m nS nL nC nO ∧ M 59 = m 18 ∧ (∀ s, s < 6 → ∃ z, z ≤ 12 ∧ m 18 s = nI z) := by
  obtain ⟨⟨y, a1, a2, a3, a4, _⟩, _⟩ := h
  have hD : DS m (up m 0 55 y) := ⟨fun a _ _ => by rw [up_n (by omega)], fun j _ _ => by rw [up_m (by omega)]⟩
  exact ⟨a2.cg (fun _ _ _ => rfl) hD, a3.cg hD, by rw [a4.1, up_n (by omega)], fun s hs => by have := a4.2 s hs; rw [up_n (by omega)] at this; exact this⟩
theorem askLoop {kc : Mem → Option XR} {km : Mem → Option (Int32 × Mem)} (hfu : 5000 ≤ fu) (hl : t0 + dl < 2 ^ 29) (hu : u < 2 ^ 29) : ∀ d p kf mf t c0 sc tk o sn un (M m : Mem), p + d = nS → d < kf → d < mf → SA M m t u nS nL nC nO RR t0 dl fr c0 sc tk p o sn un → t + 480 * d < 2 ^ 29 → c0 + sc + 200 * d < 2 ^ 29 →
    ∃ N n t' c' sc' tk' o' sn' un', f_X10_ask_L66 fu kc kf (nI p) M = kc N ∧ f_X11_ask_L114 fu km mf m = km n ∧ t ≤ t' ∧ t' ≤ t + 480 * d ∧ SA N n t' u nS nL nC nO RR t0 dl fr c' sc' tk' nS o' sn' un' ∧ c' + sc' ≤ c0 + sc + 200 * d := by
  intro d
  induction d with
  | zero =>
    intro p kf mf t c0 sc tk o sn un M m h1 h2 h3 hSA ht hc
    obtain ⟨kf, rfl⟩ := fu1 h2
    obtain ⟨mf, rfl⟩ := fu1 h3
    obtain rfl : p = nS := by omega
    obtain ⟨b1, b2, b3, b4⟩ := hSA.base
    have h83 := hSA.2.2.2.1.1.2.1
    have hle : nI p ≤ nI p := by
      have := b2.1.2
      rw [nI_leI (by omega) (by omega)]; exact Nat.le_refl _
    refine ⟨M, m, t, c0, sc, tk, o, sn, un, ?_, ?_, by omega, by omega, hSA, by omega⟩
    · simp only [f_X10_ask_L66, b1.1.1, b2.1.1, hle, ↓reduceIte]
    · simp only [f_X11_ask_L114, b2.1.1, h83, hle, ↓reduceIte]
  | succ d ih =>
    intro p kf mf t c0 sc tk o sn un M m h1 h2 h3 hSA ht hc
    obtain ⟨kf, rfl⟩ := fu1 h2
    obtain ⟨mf, rfl⟩ := fu1 h3
    have hm1 : 480 * (d + 1) = 480 * d + 480 := Nat.mul_succ 480 d
    have hm2 : 200 * (d + 1) = 200 * d + 200 := Nat.mul_succ 200 d
    rw [hm1] at ht ⊢
    rw [hm2] at hc ⊢
    have ht' : t + 480 < 2 ^ 29 := Nat.lt_of_le_of_lt (Nat.add_le_add_left (Nat.le_add_left _ _) t) ht
    have hc' : c0 + sc + 200 < 2 ^ 29 := by omega
    obtain ⟨b1, b2, b3, b4⟩ := hSA.base
    have hS3 := b2.1.2
    have hTK := hSA.2.2.2.1
    have hcn := hSA.2.2.2.2.1
    have hlt := hSA.2.2.2.2.2.1
    obtain ⟨j, hj, hjt⟩ : ∃ j, j < nS ∧ tk j = false := by
      by_cases h : ∃ j, j < nS ∧ tk j = false
      · exact h
      · exfalso
        have hall : ∀ j, j < nS → tk j = true := fun j hj => by
          cases ht : tk j with
          | true => rfl
          | false => exact absurd ⟨j, hj, ht⟩ h
        have : nS = 0 ∨ nS = 1 ∨ nS = 2 ∨ nS = 3 := by omega
        rcases this with rfl | rfl | rfl | rfl
        · omega
        · simp only [cn3, hall 0 (by omega), ↓reduceIte] at hcn; omega
        · simp only [cn3, hall 0 (by omega), hall 1 (by omega), ↓reduceIte] at hcn; omega
        · simp only [cn3, hall 0 (by omega), hall 1 (by omega), hall 2 (by omega), ↓reduceIte] at hcn; omega
    have hz : ZZ m nS (fun j => (m 18 (m 19 j).toNatClampNeg).toNatClampNeg) := fun j hj => by
      obtain ⟨s, s1, s2⟩ := b2.src hj
      obtain ⟨z, z1, z2⟩ := b4 s s1
      refine ⟨s, s1, s2, ?_, ?_⟩
      · dsimp only; rw [s2, nI_clamp (by omega), z2, nI_clamp (by omega)]
      · dsimp only; rw [s2, nI_clamp (by omega), z2, nI_clamp (by omega)]; omega
    obtain ⟨f, f1, f2, f3, f4⟩ := next2 (fu := fu) hfu b1 b2 hTK b3 hz hj hjt
    obtain ⟨N1, n1, t1, sc1, o1, sn1, un1, g1, g2, g3, g4, g5, g6⟩ := take4 hfu hSA f1 f2 ht' hl hc' hu
    obtain ⟨N, n, t', c', sc', tk', o', sn', un', y1, y2, y3, y4, y5, y6⟩ := ih (p + 1) kf mf t1 (c0 + sc) sc1 (setB tk f) o1 sn1 un1 N1 n1 (by omega) (by omega) (by omega) g6 (by omega) (by omega)
    have h83 := hTK.1.2.1
    have hle : ¬ nI nS ≤ nI p := by rw [nI_leI (by omega) (by omega)]; omega
    refine ⟨N, n, t', c', sc', tk', o', sn', un', ?_, ?_, by omega, by omega, y5, by omega⟩
    · rw [← y1]
      simp only [f_X10_ask_L66, b1.1.1, b2.1.1, hle, ↓reduceIte, f3, bd_some, g1, nm_d, nI_1]
    · rw [← y2]
      simp only [f_X11_ask_L114, b2.1.1, h83, hle, ↓reduceIte, f4, bd_some, g2]
theorem claimL {k65 : Int32 → Int32 → Option Int32} (hG : DG m nS nL nC nO) (h : ∀ j, j < nS → m 46 j = nI (sn j) ∧ m 47 j = nI (un j) ∧ sn j ≤ u ∧ un j ≤ u) (hu : u < 2 ^ 29) : ∀ d s k, s + d = nS → d < k → mxN sn s ≤ u ∧ mnN un u s ≤ u → f_X11_claimed_L9 fu m k65 k (nI (mxN sn s)) (nI (mnN un u s)) (nI s) = k65 (nI (mxN sn nS)) (nI (mnN un u nS)) := by
  have hS3 := hG.1.2
  intro d
  induction d with
  | zero =>
    intro s k h1 h2 hb
    obtain ⟨k, rfl⟩ := fu1 h2
    obtain rfl : s = nS := by omega
    simp (disch := omega) only [f_X11_claimed_L9, hG.1.1, lit, nI_add, pk_mul, pk_sub, nI_clamp, inb_nI, nI_leI, nI_ltI, nI_eq, add_m1, ↓reduceIte, grd_true, nm_d, jn_d, bd_some, bm_some, om_some, om_none, Nat.le_refl]
  | succ d ih =>
    intro s k h1 h2 hb
    obtain ⟨k, rfl⟩ := fu1 h2
    have h3 : ¬ nS ≤ s := by omega
    obtain ⟨q1, q2, q3, q4⟩ := h s (by omega)
    have ih' := ih (s + 1) k (by omega) (by omega) ⟨by simp only [mxN]; omega, by simp only [mnN]; omega⟩
    rw [← ih']
    have e1 : (if nI (sn s) ≤ nI (mxN sn s) then nI (mxN sn s) else nI (sn s)) = nI (mxN sn (s + 1)) := by
      have e : (nI (sn s) ≤ nI (mxN sn s)) = (sn s ≤ mxN sn s) := propext (nI_leI (by omega) (by omega))
      simp only [e, mxN]
      split
      · congr 1; omega
      · congr 1; omega
    have e2 : (nI (mnN un u s) ≤ nI (un s)) = (mnN un u s ≤ un s) := propext (nI_leI (by omega) (by omega))
    have cs : (nI s).toNatClampNeg = s := nI_clamp (by omega)
    have hle : ¬ nI nS ≤ nI s := by rw [nI_leI (by omega) (by omega)]; exact h3
    simp only [f_X11_claimed_L9, hG.1.1, hle, ↓reduceIte, inb_nI (show s < 3 by omega) (show 3 < 2 ^ 31 by omega), grd_true, cs, q1, q2, e1, nm_d, e2, nI_1]
    by_cases h4 : mnN un u s ≤ un s
    · rw [if_pos h4]
      have : mnN un u (s + 1) = mnN un u s := by simp only [mnN]; omega
      rw [this]
    · rw [if_neg h4]
      have : mnN un u (s + 1) = un s := by simp only [mnN]; omega
      rw [this]
theorem mx3N (h : ∀ j, j < 3 → (tk j = true ↔ j < nS)) (hS : nS ≤ 3) : mx3 tk sn = mxN sn nS ∧ ∀ u, (∀ j, j < nS → un j ≤ u) → mn3 tk un u = mnN un u nS := by
  have h0 := h 0 (by omega)
  have h1 := h 1 (by omega)
  have h2 := h 2 (by omega)
  have : nS = 0 ∨ nS = 1 ∨ nS = 2 ∨ nS = 3 := by omega
  rcases this with rfl | rfl | rfl | rfl
  · simp at h0 h1 h2
    refine ⟨by simp [mx3, mxN, h0, h1, h2], fun u hu => by simp [mn3, mnN, h0, h1, h2]⟩
  · simp at h0 h1 h2
    refine ⟨by simp [mx3, mxN, h0, h1, h2], fun u hu => ?_⟩
    have := hu 0 (by omega)
    simp [mn3, mnN, h0, h1, h2]
    omega
  · simp at h0 h1 h2
    refine ⟨by simp [mx3, mxN, h0, h1, h2], fun u hu => ?_⟩
    have := hu 0 (by omega)
    have := hu 1 (by omega)
    simp [mn3, mnN, h0, h1, h2]
    omega
  · simp at h0 h1 h2
    refine ⟨?_, fun u hu => ?_⟩
    · simp [mx3, mxN, h0, h1, h2]
    · have := hu 0 (by omega)
      have := hu 1 (by omega)
      have := hu 2 (by omega)
      simp [mn3, mnN, h0, h1, h2]
      omega
theorem copy159 {k : Mem → Option (Int32 × Mem)} : ∀ d x n, x + d = 120 → d < n → f_X11_ask_L159 fu k n (nI x) (row m 56 (va_cpy (m 52) (m 56) 0 0 x)) = k (row m 56 (va_cpy (m 52) (m 56) 0 0 120)) := by
  intro d
  induction d with
  | zero =>
    intro x n h1 h2
    obtain ⟨n, rfl⟩ := fu1 h2
    obtain rfl : x = 120 := by omega
    simp (disch := omega) only [f_X11_ask_L159, lit, nI_add, pk_mul, pk_sub, nI_clamp, inb_nI, nI_leI, nI_ltI, nI_eq, add_m1, ↓reduceIte, grd_true, nm_d, jn_d, bd_some, bm_some, om_some, om_none, Nat.le_refl]
  | succ d ih =>
    intro x n h1 h2
    obtain ⟨n, rfl⟩ := fu1 h2
    have h3 : ¬ 120 ≤ x := by omega
    simp (disch := omega) only [f_X11_ask_L159, lit, nI_add, pk_mul, pk_sub, nI_clamp, inb_nI, nI_leI, nI_ltI, nI_eq, add_m1, ↓reduceIte, grd_true, nm_d, jn_d, bd_some, bm_some, om_some, om_none, h3, row_n]
    rw [up_row, row_s, row_row]
    have e := cp_s (f := m 52) (g := m 56) (s := 0) (d := 0) (c := x)
    simp only [Nat.zero_add] at e
    rw [e]
    exact ih (x + 1) n (by omega) (by omega)
end Ask
