/-! ===== what is read; what is forbidden; the draft is cleared, shaped ===== -/
section Read
variable {fu nS nL nC nO i j s t u e p c : Nat} {M m N n : Mem} {RR : Nat → List Row} {R : List Row} {v x p1 p2 p3 p4 p5 p6 : Int32} {km : Nat → Nat} {f : Option XR} {g : Option (Int32 × Mem)}
theorem isb_of {x : Int32} (h : isb x = true) : ∃ b, x = bI b := by
  simp only [isb, Bool.or_eq_true, decide_eq_true_eq] at h
  rcases h with rfl | rfl
  · exact ⟨false, rfl⟩
  · exact ⟨true, rfl⟩
theorem bI_e0 {b : Bool} : (bI b = 0) = (b = false) := by cases b <;> decide
theorem forbid_call (h : REL M m t u) (hb : isb p3 = true) : OUT kmC t u (f_X10_forbid fu p1 p2 p3 M) (f_X11_forbid fu p1 p2 p3 m) := by
  rcases idx 6 (by omega) p1 with h1 | ⟨s, hs, rfl⟩
  · refine OUT.same (k := 1) (v := 0) (p1 := 0) h (by omega) ?_ ?_ (fun hk => by omega)
    · simp only [f_X10_forbid, needI6, h1, if_true, bx_1, xer]
    · simp only [f_X11_forbid, nm_d, isSource0, h1, if_true, up_s, le10, if_false]
      rfl
  have g1 := good (b := 6) (by omega) hs
  rcases idx 3 (by omega) p2 with h2 | ⟨k, hk, rfl⟩
  · refine OUT.same (k := 1) (v := 0) (p1 := 0) h (by omega) ?_ ?_ (fun hk => by omega)
    · simp only [f_X10_forbid, needI6, needI3, g1, if_false, bx_0, h2, if_true, bx_1, xer]
    · simp only [f_X11_forbid, nm_d, isSource0, isStore0, g1, h2, if_true, up_s, le10, if_false]
      rfl
  have g2 := good (b := 3) (by omega) hk
  obtain ⟨_, _, _, _, _, w1, _, _, _, w5, _⟩ := id h
  obtain ⟨b, eb, ebit⟩ := w5 s k hs hk
  obtain ⟨q, rfl⟩ := isb_of hb
  have e3 : nI s * 3 + nI k = nI (3 * s + k) := by rw [show (3 : Int32) = nI 3 from rfl, pk_mul, nI_add, Nat.mul_comm]
  have ebit' : (((m 17 s >>> (nI k &&& 31)) &&& 1) = 1) = (b = true) := propext ebit
  have efb : f_X11_isForbidden fu (nI s) (nI k) (up m 0 0 0) = some (bI b) := by
    simp (disch := omega) only [f_X11_isForbidden, inb_nI, grd_true, nI_clamp, up_n, ebit']
    cases b <;> rfl
  generalize hv9 : (if bI q = 0 then m 17 s &&& ((1 <<< (nI k &&& 31)) ^^^ (-1)) else m 17 s ||| (1 <<< (nI k &&& 31))) = v9
  have e9 : ∀ j, j < 3 → (v9.toBitVec.getLsbD j = true ↔ if j = k then q = true else (m 17 s).toBitVec.getLsbD j = true) := by
    intro j hj
    rw [← hv9]
    cases q
    · rw [if_pos (show bI false = 0 from rfl), bitA hk hj]
      by_cases hjk : j = k <;> simp [hjk]
    · rw [if_neg (show ¬ bI true = 0 from by decide), bitO hk hj]
      by_cases hjk : j = k <;> simp [hjk]
  refine ⟨0, bI b, up M 54 (3 * s + k) (bI q), bI b, up (up m 0 0 0) 17 s v9, t, u, ?_, ?_, ?_, fun _ => rfl, by decide, Nat.le_refl _, by omega, Nat.le_refl _, by omega, h.of (w1.1.cg ?_ ?_ ?_ ?_ ?_ ?_) ?_ ?_ ?_ ?_⟩
  · simp (disch := omega) only [f_X10_forbid, needI6, needI3, g1, g2, if_false, bx_0, nm_d, e3, inb_nI, grd_true, nI_clamp, eb, isb_bI]
  · have e17 : (up m 0 0 0) 17 s = m 17 s := by rw [up_n (by omega)]
    simp (disch := omega) only [f_X11_forbid, nm_d, isSource0, isStore0, g1, g2, if_false, up_s, Int32.le_refl, if_true, efb, bd_some, jn_d, inb_nI, grd_true, nI_clamp, isb_bI, e17]
    rw [← hv9]
    split <;> rfl
  · rw [up_n (by omega), up_s]; rfl
  · intro a h1 h2 h3; rw [up_n h3]
  · rw [up_n (by omega), up_m (by omega)]
  · rw [up_n (by omega), up_m (by omega)]
  · rw [up_n (by omega), up_m (by omega)]
  · intro a h1 h2; rw [up_n (by omega), up_n (by omega)]
  · intro a h1 h2; rw [up_n (by omega), up_n (by omega)]
  · intro a h1; rw [up_n (by omega)]
  · intro a h1; rw [up_n (by omega), up_n (by omega)]
  · intro j h1 h2 h3 h4; rw [up_n (by omega), up_m h1]
  · intro s' k' hs' hk'
    obtain ⟨b', eb', ebit2⟩ := w5 s' k' hs' hk'
    by_cases hss : s' = s
    · subst hss
      rw [up_s, bitS hk']
      rw [bitS hk'] at ebit2
      by_cases hkk : k' = k
      · subst hkk
        exact ⟨q, by rw [up_s], by rw [e9 k' hk', if_pos rfl]⟩
      · exact ⟨b', by rw [up_m (by omega)]; exact eb', by rw [e9 k' hk', if_neg hkk]; exact ebit2⟩
    · refine ⟨b', by rw [up_m (by omega)]; exact eb', ?_⟩
      rw [up_m hss, up_n (by omega)]
      exact ebit2
/-- what is got -/
theorem got (h : REL M m t u) : M 57 6 = m 0 6 ∧ M 1 1 = m 0 7 ∧ M 1 0 = m 0 8 ∧ M 90 5 = m 0 75 ∧ M 90 7 = m 0 78 ∧ M 90 8 = m 0 79 ∧ M 90 9 = m 0 80 ∧ M 90 10 = m 0 81 ∧ M 90 11 = m 0 82 ∧ M 2 4 = m 0 39 := by
  obtain ⟨RR, nS, nL, nC, nO, w1, w2, w3, w4, w5, w6, ⟨⟨k, cols, k1, k2, k3, k4, k5, k6, k7⟩, l2, l3, l4, l5, l6, p, p1, p2, p3, p4⟩, w8⟩ := h
  obtain ⟨⟨a1, a2, a3, a4⟩, _, _, L, ⟨_, d1⟩, d2, d3⟩ := id w1.1
  exact ⟨w1.2.2.2.2.2, by rw [a3, a4], by rw [a1, a2], by rw [k3, k4], l2, l3, l4, l5, l6, by rw [d1.2.1, d2.1]⟩
def GET (t u : Nat) (M : Mem) (f : Option Int32) (g : Option (Int32 × Mem)) : Prop := ∃ v n, f = some v ∧ g = some (v, n) ∧ n 0 0 = 0 ∧ REL M n t u
theorem gets (h : REL M m t u) : GET t u M (f_X10_losses fu M) (f_X11_losses fu m) ∧ GET t u M (f_X10_moment fu M) (f_X11_moment fu m) ∧ GET t u M (f_X10_now fu M) (f_X11_now fu m) ∧ GET t u M (f_X10_answers fu M) (f_X11_answers fu m) ∧ GET t u M (f_X10_missing fu M) (f_X11_missing fu m) ∧ GET t u M (f_X10_claims fu M) (f_X11_claims fu m) ∧ GET t u M (f_X10_cost fu M) (f_X11_cost fu m) ∧ GET t u M (f_X10_attempts fu M) (f_X11_attempts fu m) ∧ GET t u M (f_X10_shipped fu M) (f_X11_shipped fu m) ∧ GET t u M (f_X10_entries fu M) (f_X11_entries fu m) := by
  obtain ⟨g1, g2, g3, g4, g5, g6, g7, g8, g9, g10⟩ := got h
  have hr := h.up0 0
  refine ⟨⟨_, _, rfl, ?_, up_s, hr⟩, ⟨_, _, rfl, ?_, up_s, hr⟩, ⟨_, _, rfl, ?_, up_s, hr⟩, ⟨_, _, rfl, ?_, up_s, hr⟩, ⟨_, _, rfl, ?_, up_s, hr⟩, ⟨_, _, rfl, ?_, up_s, hr⟩, ⟨_, _, rfl, ?_, up_s, hr⟩, ⟨_, _, rfl, ?_, up_s, hr⟩, ⟨_, _, rfl, ?_, up_s, hr⟩, ⟨_, _, rfl, ?_, up_s, hr⟩⟩
  · simp (disch := omega) only [f_X11_losses, nm_d, up_m, g1]
  · simp (disch := omega) only [f_X11_moment, nm_d, up_m, g2]
  · simp (disch := omega) only [f_X11_now, nm_d, up_m, g3]
  · simp (disch := omega) only [f_X11_answers, nm_d, up_m, g4]
  · simp (disch := omega) only [f_X11_missing, nm_d, up_m, g5]
  · simp (disch := omega) only [f_X11_claims, nm_d, up_m, g6]
  · simp (disch := omega) only [f_X11_cost, nm_d, up_m, g7]
  · simp (disch := omega) only [f_X11_attempts, nm_d, up_m, g8]
  · simp (disch := omega) only [f_X11_shipped, nm_d, up_m, g9]
  · simp (disch := omega) only [f_X11_entries, nm_d, up_m, g10]
theorem count_call (h : REL M m t u) : OUT kmC t u (f_X10_count fu p1 M) (f_X11_count fu p1 m) := by
  rcases idx 6 (by omega) p1 with h1 | ⟨s, hs, rfl⟩
  · refine OUT.same (k := 1) (v := 0) (p1 := 0) h (by omega) ?_ ?_ (fun hk => by omega)
    · simp only [f_X10_count, needI6, h1, if_true, bx_1, xer]
    · simp only [f_X11_count, nm_d, isSource0, h1, if_true, up_s, le10, if_false]
      rfl
  have g1 := good (b := 6) (by omega) hs
  obtain ⟨_, _, _, _, _, w1, _⟩ := id h
  obtain ⟨c1, c2⟩ := w1.2.1 s hs
  refine OUT.same (k := 0) (v := M (62 + 3 * s) 2) (p1 := m 1 s) h (by omega) ?_ ?_ (fun _ => by rw [c1.1, c2.1])
  · simp (disch := omega) only [f_X10_count, needI6, g1, if_false, bx_0, inb_nI, grd_true, nm_d, nI_clamp, Nat.reduceAdd]
  · simp (disch := omega) only [f_X11_count, nm_d, isSource0, g1, if_false, up_s, Int32.le_refl, if_true, inb_nI, grd_true, nI_clamp, up_n]
    rfl
theorem size_call (h : REL M m t u) : OUT kmC t u (f_X10_size fu p1 M) (f_X11_size fu p1 m) := by
  rcases idx 6 (by omega) p1 with h1 | ⟨s, hs, rfl⟩
  · refine OUT.same (k := 1) (v := 0) (p1 := 0) h (by omega) ?_ ?_ (fun hk => by omega)
    · simp only [f_X10_size, needI6, h1, if_true, bx_1, xer]
    · simp only [f_X11_size, nm_d, isSource0, h1, if_true, up_s, le10, if_false]
      rfl
  have g1 := good (b := 6) (by omega) hs
  obtain ⟨_, _, _, _, _, w1, _, _, w4, _⟩ := id h
  refine OUT.same (k := 0) (v := M 59 s) (p1 := m 18 s) h (by omega) ?_ ?_ (fun _ => by rw [w4.1])
  · simp (disch := omega) only [f_X10_size, needI6, g1, if_false, bx_0, inb_nI, grd_true, nm_d, nI_clamp]
  · simp (disch := omega) only [f_X11_size, nm_d, isSource0, g1, if_false, up_s, Int32.le_refl, if_true, inb_nI, grd_true, nI_clamp, up_n]
    rfl
theorem subm1 {x k : Nat} (hx : x < 2 ^ 31) (hk : k ≤ 40) : (nI k - 1 < nI x) = (nI k ≤ nI x) := by
  rcases k with _ | k
  · rw [nI_leI (by omega) hx, show nI 0 - 1 = (-1 : Int32) from by decide, eq_true (Nat.zero_le x)]
    refine propext ⟨fun _ => trivial, fun _ => ?_⟩
    rw [i_lt, nI_toInt hx, show (-1 : Int32).toInt = -1 from by decide]
    omega
  · rw [show nI (k + 1) - 1 = nI k from by rw [show (1 : Int32) = nI 1 from rfl, pk_sub (by omega)]; rfl, nI_leI (by omega) hx, nI_ltI (by omega) hx]
    exact propext (by omega)
theorem inm1 {x : Int32} {k : Nat} (hk : k ≤ 40) : (f_X11_in x 0 (nI k - 1) = 0) = (x < 0 ∨ nI k ≤ x) := by
  rw [in0]
  by_cases h : x < 0
  · simp [h]
  · obtain ⟨q, hq, rfl⟩ := nI_of h
    rw [subm1 hq hk]
theorem taken_call (h : REL M m t u) : OUT kmC t u (f_X10_taken fu p1 M) (f_X11_taken fu p1 m) := by
  obtain ⟨RR, nS, nL, nC, nO, w1, w2, w3, w4, w5, w6, ⟨⟨k, cols, k1, k2, k3, k4, k5, k6, k7⟩, l2, l3, l4, l5, l6, p, r1, r2, r3, r4⟩, w8⟩ := id h
  have eI : f_X10_needIndex fu p1 (M 90 12) M = if p1 < 0 ∨ nI p ≤ p1 then some (1, 0, M) else some (0, 0, M) := by rw [r2, needI]
  have eJ : (f_X11_in p1 0 (m 0 83 - 1) = 0) = (p1 < 0 ∨ nI p ≤ p1) := by rw [r3, inm1 (by omega)]
  rcases idx p (by omega) p1 with h1 | ⟨s, hs, rfl⟩
  · refine OUT.same (k := 1) (v := 0) (p1 := 0) h (by omega) ?_ ?_ (fun hk => by omega)
    · simp only [f_X10_taken, eI, h1, if_true, bx_1, xer]
    · simp only [f_X11_taken, nm_d, eJ, h1, if_true, up_s, le10, if_false]
      rfl
  have g1 := good (b := p) (by omega) hs
  obtain ⟨a, b, a3, b4, q1, q2, q3⟩ := r4 s hs
  refine OUT.same (k := 0) (v := nI (10 * a + b)) (p1 := nI (10 * a + b)) h (by omega) ?_ ?_ (fun _ => rfl)
  · simp (disch := omega) only [f_X10_taken, eI, g1, if_false, bx_0, inb_nI, grd_true, nm_d, nI_clamp, q1, q2]
    rw [show (10 : Int32) = nI 10 from rfl, pk_mul, nI_add, Nat.mul_comm]
  · simp (disch := omega) only [f_X11_taken, nm_d, eJ, g1, if_false, up_s, Int32.le_refl, if_true, inb_nI, grd_true, nI_clamp, up_n, q3]
    rfl
theorem answer_call (h : REL M m t u) : OUT kmC t u (f_X10_answer fu p1 p2 M) (f_X11_answer fu p1 p2 m) := by
  obtain ⟨RR, nS, nL, nC, nO, w1, w2, w3, w4, w5, w6, ⟨⟨k, cols, k1, k2, k3, k4, k5, k6, k7⟩, l2⟩, w8⟩ := id h
  have eJ : (f_X11_in p1 0 (m 0 75 - 1) = 0) = (p1 < 0 ∨ nI k ≤ p1) := by rw [k4, inm1 (by omega)]
  have eK : (f_X11_in p2 0 (m 0 76 - 1) = 0) = (p2 < 0 ∨ nI cols ≤ p2) := by rw [k6, inm1 (by omega)]
  have eI : f_X0_hasCell fu 90 p1 p2 M = some (if p1 < 0 ∨ nI k ≤ p1 then 0 else if p2 < 0 ∨ nI cols ≤ p2 then 0 else 1) := by
    simp only [f_X0_hasCell, k3, k5]
    by_cases z1 : p1 < 0 <;> by_cases z2 : nI k ≤ p1 <;> by_cases z3 : p2 < 0 <;> by_cases z4 : nI cols ≤ p2 <;> simp [z1, z2, z3, z4]
  rcases idx k (by omega) p1 with h1 | ⟨x, hx, rfl⟩
  · refine OUT.same (k := 1) (v := 0) (p1 := 0) h (by omega) ?_ ?_ (fun hk => by omega)
    · simp only [f_X10_answer, eI, h1, if_true, bd_some, f_X10_needPlace, bx_1, xer]
    · simp only [f_X11_answer, nm_d, eJ, h1, if_true, up_s, le10, if_false]
      rfl
  have g1 := good (b := k) (by omega) hx
  rcases idx cols (by omega) p2 with h2 | ⟨c, hc, rfl⟩
  · refine OUT.same (k := 1) (v := 0) (p1 := 0) h (by omega) ?_ ?_ (fun hk => by omega)
    · simp only [f_X10_answer, eI, g1, h2, if_true, if_false, bd_some, f_X10_needPlace, bx_1, xer]
    · simp only [f_X11_answer, nm_d, eJ, eK, g1, h2, if_true, up_s, le10, if_false]
      rfl
  have g2 := good (b := cols) (by omega) hc
  have ex : nI x * 3 + nI c = nI (3 * x + c) := by rw [show (3 : Int32) = nI 3 from rfl, pk_mul, nI_add, Nat.mul_comm]
  have ey : 3 * nI x + nI c = nI (3 * x + c) := by rw [show (3 : Int32) = nI 3 from rfl, pk_mul, nI_add]
  refine OUT.same (k := 0) (v := M 91 (3 * x + c)) (p1 := m 56 (3 * x + c)) h (by omega) ?_ ?_ (fun _ => k7 x c hx hc)
  · simp (disch := omega) only [f_X10_answer, eI, g1, g2, if_false, bd_some, f_X10_needPlace, i10, bx_0, f_X0_answerAt, ex, inb_nI, grd_true, nI_clamp, Nat.reduceAdd]
  · simp (disch := omega) only [f_X11_answer, nm_d, eJ, eK, g1, g2, if_false, up_s, Int32.le_refl, if_true, ey, inb_nI, grd_true, nI_clamp, up_n]
    rfl
end Read
