/-! ===== an attempt of a store ===== -/
def FLa (N M : Mem) : Prop := (∀ a, a ≠ 145 → a ≠ 147 → a ≠ 148 → a ≠ 152 → N a = M a) ∧ ∀ j, j ≠ 1 → j ≠ 3 → j ≠ 7 → j ≠ 8 → j ≠ 13 → N 152 j = M 152 j
/-- a question's numbers -/
def QS (M m : Mem) : Prop := M 152 4 = m 0 52 ∧ M 152 5 = m 0 53 ∧ M 152 6 = m 0 54 ∧ M 152 7 = m 0 80 ∧ M 152 8 = m 0 81 ∧ M 152 9 = m 0 82 ∧ M 152 13 = m 0 55
section TryL
variable {fu t u d j s : Nat} {M m N n : Mem} {p q : Int32}
theorem FLa.rfl : FLa M M := ⟨fun _ _ _ _ _ => Eq.refl _, fun _ _ _ _ _ _ => Eq.refl _⟩
theorem FLa.trans {P : Mem} (h : FLa N P) (h' : FLa P M) : FLa N M := ⟨fun a h1 h2 h3 h4 => by rw [h.1 a h1 h2 h3 h4, h'.1 a h1 h2 h3 h4], fun j h1 h2 h3 h4 h5 => by rw [h.2 j h1 h2 h3 h4 h5, h'.2 j h1 h2 h3 h4 h5]⟩
theorem FLt.a (h : FLt N M) : FLa N M := ⟨fun a _ h2 h3 h4 => h.1 a h2 h3 h4, fun j h1 h2 _ _ _ => h.2 j h1 h2⟩
theorem KG.fq (h : KG m) (f : FMq n m) : KG n := by
  obtain ⟨c1, c2, c3, c4, c5⟩ := h
  refine ⟨?_, ?_, ?_, ?_, ?_⟩
  · rw [f.1 6 (by omega) (by omega) (by omega) (by omega) (by omega)]; exact c1
  · rw [f.1 7 (by omega) (by omega) (by omega) (by omega) (by omega)]; exact c2
  · rw [f.1 9 (by omega) (by omega) (by omega) (by omega) (by omega)]; exact c3
  · rw [f.1 15 (by omega) (by omega) (by omega) (by omega) (by omega)]; exact c4
  · rw [f.1 16 (by omega) (by omega) (by omega) (by omega) (by omega)]; exact c5
theorem FM1.fq (h : FM1 n m) : FMq n m := ⟨fun a h1 h2 _ _ _ => h.1 a h1 h2, fun j h1 h2 _ _ _ => h.2 j h1 h2⟩
theorem attSplit : ∃ K1 K2 K3 K4 K5 : Mem → Option (Int32 × Mem), (∀ M, f_L_attempt fu p q M = grd (inb (21 + p) 27) (if M 145 (21 + p).toNatClampNeg = M 152 1 / 10 then grd (inb (24 + p) 27) (grd (inb (6 + p) 27) (if M 145 (24 + p).toNatClampNeg < M 145 (6 + p).toNatClampNeg then K1 M else K1 (up M 152 1 (M 152 1 / 10 * 10 + 10)))) else K1 M)) ∧ (∀ M, K1 M = bd (f_L_age fu M) (fun M5 => if q = 0 then K2 M5 else if M5 152 1 - M5 152 4 ≤ M5 152 6 then K2 M5 else some (0, M5))) ∧ (∀ M, K2 M = if M 145 (21 + p).toNatClampNeg = M 152 1 / 10 then K3 M else grd (inb (24 + p) 27) (K3 (up M 145 (24 + p).toNatClampNeg 0))) ∧ (∀ M, K3 M = nm (up M 145 (21 + p).toNatClampNeg (M 152 1 / 10)) (fun M9 => grd (inb (24 + p) 27) (nm (up M9 145 (24 + p).toNatClampNeg (M9 145 (24 + p).toNatClampNeg + 1)) (fun M11 => grd (inb p 27) (bd (f_L_age fu (up M11 152 1 (M11 152 1 + M11 145 p.toNatClampNeg))) K4))))) ∧ (∀ M, K4 M = if q = 0 then K5 M else K5 (up (up (up M 152 8 (M 152 8 + 1)) 152 7 ((up M 152 8 (M 152 8 + 1)) 152 7 + f_L_fee p)) 152 13 ((up (up M 152 8 (M 152 8 + 1)) 152 7 ((up M 152 8 (M 152 8 + 1)) 152 7 + f_L_fee p)) 152 13 + f_L_fee p))) ∧ (∀ M, K5 M = grd (inb (15 + p) 27) (if M 145 (15 + p).toNatClampNeg = 0 then some (2, M) else some (1, up M 145 (15 + p).toNatClampNeg (M 145 (15 + p).toNatClampNeg - 1)))) := ⟨_, _, _, _, _, fun _ => Eq.refl _, fun _ => Eq.refl _, fun _ => Eq.refl _, fun _ => Eq.refl _, fun _ => Eq.refl _, fun _ => Eq.refl _⟩
theorem TN.time (h : TN M m t u) : M 152 1 = nI t ∧ m 0 8 = nI t := ⟨h.1.1, h.1.2.1⟩
theorem await_L (hfu : 5000 ≤ fu) (h : TN M m t u) (hP : PL M m) (hj : j < 3) (ht : t + 10 < 2 ^ 27) : ∃ M1 N n t', t ≤ t' ∧ t' ≤ t + 10 ∧ (∀ K1 : Mem → Option (Int32 × Mem), (if M 145 (21 + j) = M 152 1 / 10 then (if M 145 (24 + j) < M 145 (6 + j) then K1 M else K1 (up M 152 1 (M 152 1 / 10 * 10 + 10))) else K1 M) = K1 M1) ∧ f_L_age fu M1 = some N ∧ (∀ K : Mem → Option (Int32 × Mem), (if m 13 j = m 0 8 / 10 then (if m 14 j < m 8 j then K m else bd (f_X11_goes fu (10 - (m 0 8 - m 0 8 / 10 * 10)) m) (fun x => K x)) else K m) = K n) ∧ TN N n t' u ∧ PL N n ∧ FLt N M ∧ FM1 n m := by
  obtain ⟨a1, a2⟩ := h.time
  obtain ⟨x1, x2, x3, x4, x5, x6, x7, x8, x9, _⟩ := hP j hj
  by_cases c : m 13 j = m 0 8 / 10 ∧ ¬ m 14 j < m 8 j
  · obtain ⟨c1, c2⟩ := c
    obtain ⟨N, n, e1, e2, e3, e4, e5, e6⟩ := goes_L (d := 10 - t % 10) hfu h.tl hP (by omega)
    have y1 : (10 : Int32) - (m 0 8 - m 0 8 / 10 * 10) = nI (10 - t % 10) := by
      rw [a2, lit, pk_rem (by omega) (by omega) (by omega), pk_sub (by omega)]
    have y2 : (M 152 1 / 10 * 10 + 10 : Int32) = nI (t + (10 - t % 10)) := by
      rw [a1, lit, pk_div (by omega) (by omega) (by omega), pk_mul, nI_add]
      congr 1
      omega
    refine ⟨_, N, n, t + (10 - t % 10), by omega, by omega, fun K => ?_, e1, fun K => ?_, e3, e4, e5, e6⟩
    · rw [x8, x9, x3, a1, ← a2, if_pos c1, if_neg c2, ← y2, a1, a2]
    · rw [if_pos c1, if_neg c2, y1, e2, bd_some]
  · obtain ⟨N, e1, e2, e3, e4, e5⟩ := age_id hfu h hP (by omega)
    refine ⟨M, N, m, t, Nat.le_refl _, by omega, fun K => ?_, e1, fun K => ?_, e2, e3, e4, ⟨fun _ _ _ => rfl, fun _ _ _ => rfl⟩⟩
    · rw [x8, x9, x3, a1, ← a2]
      by_cases c1 : m 13 j = m 0 8 / 10
      · rw [if_pos c1, if_pos (by by_cases c2 : m 14 j < m 8 j; exact c2; exact absurd ⟨c1, c2⟩ c)]
      · rw [if_neg c1]
    · by_cases c1 : m 13 j = m 0 8 / 10
      · rw [if_pos c1, if_pos (by by_cases c2 : m 14 j < m 8 j; exact c2; exact absurd ⟨c1, c2⟩ c)]
      · rw [if_neg c1]
theorem PL.win (hP : PL M m) (hj : j < 3) {w v : Int32} : PL (up (up M 145 (21 + j) w) 145 (24 + j) v) (up (up m 14 j v) 13 j w) := fun i hi => by
  obtain ⟨x1, x2, x3, x4, x5, x6, x7, x8, x9, x10⟩ := hP i hi
  have o1 : ∀ a, a ≠ 13 → a ≠ 14 → up (up m 14 j v) 13 j w a = m a := fun a h1 h2 => by rw [up_n h1, up_n h2]
  have o2 : ∀ x, x ≠ 21 + j → x ≠ 24 + j → up (up M 145 (21 + j) w) 145 (24 + j) v 145 x = M 145 x := fun x h1 h2 => by rw [up_m h2, up_m h1]
  simp only [o1 6 (by omega) (by omega), o1 7 (by omega) (by omega), o1 8 (by omega) (by omega), o1 9 (by omega) (by omega), o1 10 (by omega) (by omega), o1 11 (by omega) (by omega), o1 12 (by omega) (by omega)]
  rw [o2 i (by omega) (by omega), o2 (3 + i) (by omega) (by omega), o2 (6 + i) (by omega) (by omega), o2 (9 + i) (by omega) (by omega), o2 (12 + i) (by omega) (by omega), o2 (15 + i) (by omega) (by omega), o2 (18 + i) (by omega) (by omega)]
  refine ⟨x1, x2, x3, x4, x5, x6, x7, ?_, ?_, x10⟩
  · by_cases hij : i = j
    · subst hij; rw [up_m (by omega), up_s, up_s]
    · rw [o2 (21 + i) (by omega) (by omega), up_m hij, up_n (by omega)]; exact x8
  · by_cases hij : i = j
    · subst hij; rw [up_s, up_n (by omega), up_s]
    · rw [o2 (24 + i) (by omega) (by omega), up_n (by omega), up_m hij]; exact x9
/-- what makes the attempt: the law and the reference -/
theorem make_L (hfu : 5000 ≤ fu) (h : TN M m t u) (hP : PL M m) (hG : KG m) (hj : j < 3) (ht : t + 30 < 2 ^ 27) {K3 K4 : Mem → Option (Int32 × Mem)} (hK3 : ∀ M, K3 M = nm (up M 145 (21 + nI j).toNatClampNeg (M 152 1 / 10)) (fun M9 => grd (inb (24 + nI j) 27) (nm (up M9 145 (24 + nI j).toNatClampNeg (M9 145 (24 + nI j).toNatClampNeg + 1)) (fun M11 => grd (inb (nI j) 27) (bd (f_L_age fu (up M11 152 1 (M11 152 1 + M11 145 (nI j).toNatClampNeg))) K4))))) : ∃ N n t', t ≤ t' ∧ t' ≤ t + 30 ∧ (if M 145 (21 + nI j).toNatClampNeg = M 152 1 / 10 then K3 M else grd (inb (24 + nI j) 27) (K3 (up M 145 (24 + nI j).toNatClampNeg 0))) = K4 N ∧ mtry fu j m = some n ∧ TN N n t' u ∧ PL N n ∧ FLa N M ∧ (∀ j, j ≠ 1 → j ≠ 3 → N 152 j = M 152 j) ∧ FMq n m ∧ n 11 = m 11 ∧ ∀ j, j ≠ 8 → j ≠ 39 → n 0 j = m 0 j := by
  obtain ⟨a1, a2⟩ := h.time
  obtain ⟨x1, x2, x3, x4, x5, x6, x7, x8, x9, _⟩ := hP j hj
  obtain ⟨dl, hd1, hd2⟩ := hG.1 j hj
  have e21 : (21 : Int32) + nI j = nI (21 + j) := nI_add 21 j
  have e24 : (24 : Int32) + nI j = nI (24 + j) := nI_add 24 j
  let v : Int32 := if m 13 j = m 0 8 / 10 then m 14 j + 1 else 1
  let w : Int32 := m 0 8 / 10
  have hPP := hP.win (w := w) (v := v) hj
  have hT : TL (up (up M 145 (21 + j) w) 145 (24 + j) v) (up (up m 14 j v) 13 j w) t u := h.tl.cg (by rw [up_n (by omega), up_n (by omega)]) (by rw [up_n (by omega), up_n (by omega)]) (by rw [up_n (by omega), up_n (by omega)]) (by rw [up_n (by omega), up_n (by omega)]; exact ⟨rfl, rfl, rfl⟩) (by rw [up_n (by omega), up_n (by omega)]) (by rw [up_n (by omega), up_n (by omega)]) (by rw [up_n (by omega), up_n (by omega)]) (by rw [up_n (by omega), up_n (by omega)]) (fun a _ _ => by rw [up_n (by omega), up_n (by omega)])
  obtain ⟨N, n, e1, e2, e3, e4, e5, e6⟩ := goes_L (d := dl) hfu hT hPP (by omega)
  have hm : mtry fu j m = some n := by
    simp only [mtry]
    rw [hd2]
    exact e2
  have hv : ∀ P : Mem, P 152 = M 152 → (∀ x, x ≠ 24 + j → P 145 x = M 145 x) → (∀ a, a ≠ 145 → P a = M a) → P 145 (24 + j) + 1 = v → K3 P = K4 N := fun P h0 h1 h2 h3 => by
    have hPw : up (up P 145 (21 + j) (P 152 1 / 10)) 145 (24 + j) v = up (up M 145 (21 + j) w) 145 (24 + j) v := by
      rw [h0, a1, ← a2]
      funext a
      by_cases ha : a = 145
      · subst ha
        funext x
        by_cases hx : x = 24 + j
        · subst hx; rw [up_s, up_s]
        · rw [up_m hx, up_m hx]
          by_cases hx2 : x = 21 + j
          · subst hx2; rw [up_s, up_s]
          · rw [up_m hx2, up_m hx2]; exact h1 x hx
      · rw [up_n ha, up_n ha, up_n ha, up_n ha]; exact h2 a ha
    rw [hK3]
    simp (disch := omega) only [nm_d, e21, e24, nI_clamp, inb_nI, grd_true]
    rw [up_m (show 24 + j ≠ 21 + j by omega), h3, hPw, up_n (show 152 ≠ 145 by omega), up_n (show 152 ≠ 145 by omega), up_m (show j ≠ 24 + j by omega), up_m (show j ≠ 21 + j by omega), a1, x1, hd2, nI_add, e1, bd_some]
  refine ⟨N, n, t + dl, by omega, by omega, ?_, hm, e3, e4, ⟨fun a z1 z2 z3 z4 => by rw [e5.1 a z2 z3 z4, up_n z1, up_n z1], fun j z1 z2 _ _ _ => by rw [e5.2 j z1 z2, up_n (by omega), up_n (by omega)]⟩, fun j z1 z2 => by rw [e5.2 j z1 z2, up_n (by omega), up_n (by omega)], ⟨fun a z1 z2 z3 z4 z5 => by rw [e6.1 a z1 z2, up_n z4, up_n z5], fun j z1 z2 _ _ _ => by rw [e6.2 j z1 z2, up_n (by omega), up_n (by omega)]⟩, by rw [e6.1 11 (by omega) (by omega), up_n (by omega), up_n (by omega)], fun j z1 z2 => by rw [e6.2 j z1 z2, up_n (by omega), up_n (by omega)]⟩
  simp (disch := omega) only [e21, e24, nI_clamp, inb_nI, grd_true]
  by_cases c : m 13 j = m 0 8 / 10
  · rw [x8, a1, ← a2, if_pos c]
    exact hv M rfl (fun _ _ => rfl) (fun _ _ => rfl) (by rw [x9]; show _ = if _ then _ else _; rw [if_pos c])
  · rw [x8, a1, ← a2, if_neg c]
    exact hv _ (up_n (by omega)) (fun x hx => up_m hx) (fun a ha => up_n ha) (by rw [up_s]; show _ = if _ then _ else _; rw [if_neg c]; decide)
/-- how it ends -/
theorem end_L (h : TN M m t u) (hP : PL M m) (hj : j < 3) : ∃ N n b, grd (inb (15 + nI j) 27) (if M 145 (15 + nI j).toNatClampNeg = 0 then some ((2 : Int32), M) else some (1, up M 145 (15 + nI j).toNatClampNeg (M 145 (15 + nI j).toNatClampNeg - 1))) = some ((if b = true then 2 else 1), N) ∧ fin j m = some ((if b = true then 2 else 1), n) ∧ TN N n t u ∧ PL N n ∧ (∀ a, a ≠ 145 → N a = M a) ∧ ∀ a, a ≠ 11 → n a = m a := by
  obtain ⟨x1, x2, x3, x4, x5, x6, x7, x8, x9, ⟨k, k1, k2⟩, _⟩ := hP j hj
  have e15 : (15 : Int32) + nI j = nI (15 + j) := nI_add 15 j
  simp (disch := omega) only [e15, nI_clamp, inb_nI, grd_true, x6, fin]
  rw [k2]
  by_cases hk : k = 0
  · subst hk
    refine ⟨M, m, true, by rw [if_pos (show nI 0 = 0 from rfl)]; rfl, by rw [if_pos (by decide)]; rfl, h, hP, fun _ _ => rfl, fun _ _ => rfl⟩
  · have z1 : ¬ nI k = 0 := nI_ne0 (by omega) (by omega)
    have z2 : ¬ nI k ≤ 0 := fun z => by
      have : nI k ≤ nI 0 := z
      rw [nI_leI (by omega) (by omega)] at this
      omega
    have z3 : nI k - 1 = nI (k - 1) := by rw [show (1 : Int32) = nI 1 from rfl, pk_sub (by omega)]
    refine ⟨up M 145 (15 + j) (nI k - 1), up m 11 j (nI k - 1), false, by rw [if_neg z1]; rfl, by rw [if_neg z2]; rfl, ?_, fun i hi => ?_, fun a ha => up_n ha, fun a ha => up_n ha⟩
    · exact h.cg (up_n (by omega)) (up_n (by omega)) (up_n (by omega)) (by rw [up_n (by omega)]; exact ⟨rfl, rfl, rfl⟩) (by rw [up_n (by omega)]) (by rw [up_n (by omega)]) (by rw [up_n (by omega)]) (up_n (by omega)) (fun a _ _ => up_n (by omega)) (up_n (by omega))
    · obtain ⟨y1, y2, y3, y4, y5, y6, y7, y8, y9, ⟨k', k1', k2'⟩, y10⟩ := hP i hi
      have o1 : ∀ a, a ≠ 11 → up m 11 j (nI k - 1) a = m a := fun a h1 => up_n h1
      have o2 : ∀ x, x ≠ 15 + j → up M 145 (15 + j) (nI k - 1) 145 x = M 145 x := fun x h1 => up_m h1
      simp only [o1 6 (by omega), o1 7 (by omega), o1 8 (by omega), o1 9 (by omega), o1 10 (by omega), o1 12 (by omega), o1 13 (by omega), o1 14 (by omega)]
      rw [o2 i (by omega), o2 (3 + i) (by omega), o2 (6 + i) (by omega), o2 (9 + i) (by omega), o2 (12 + i) (by omega), o2 (18 + i) (by omega), o2 (21 + i) (by omega), o2 (24 + i) (by omega)]
      refine ⟨y1, y2, y3, y4, y5, ?_, y7, y8, y9, ?_, y10⟩
      · by_cases hij : i = j
        · subst hij; rw [up_s, up_s]
        · rw [o2 (15 + i) (by omega), up_m hij]; exact y6
      · by_cases hij : i = j
        · subst hij; rw [up_s]; exact ⟨k - 1, by omega, z3⟩
        · rw [up_m hij]; exact ⟨k', k1', k2'⟩
/-- an attempt of a run: the law and the reference -/
theorem attempt0_L (hfu : 5000 ≤ fu) (h : TN M m t u) (hP : PL M m) (hG : KG m) (hj : j < 3) (ht : t + 40 < 2 ^ 27) : ∃ N n t' b, f_L_attempt fu (nI j) 0 M = some ((if b = true then 2 else 1), N) ∧ f_X11_tries fu (nI j) 0 m = some ((if b = true then 2 else 1), n) ∧ t ≤ t' ∧ t' ≤ t + 40 ∧ TN N n t' u ∧ PL N n ∧ KG n ∧ FLa N M ∧ (∀ j, j ≠ 1 → j ≠ 3 → N 152 j = M 152 j) ∧ FMq n m ∧ ∀ j, j ≠ 8 → j ≠ 39 → n 0 j = m 0 j := by
  obtain ⟨K1, K2, K3, K4, K5, s0, s1, s2, s3, s4, s5⟩ := attSplit (fu := fu) (p := nI j) (q := 0)
  have e21 : (21 : Int32) + nI j = nI (21 + j) := nI_add 21 j
  have e24 : (24 : Int32) + nI j = nI (24 + j) := nI_add 24 j
  have e6 : (6 : Int32) + nI j = nI (6 + j) := nI_add 6 j
  obtain ⟨M1, N, n, t1, a1, a2, a3, a4, a5, a6, a7, a8, a9⟩ := await_L (j := j) hfu h hP hj (by omega)
  have hG1 := hG.fq a9.fq
  obtain ⟨N2, n2, t2, b1, b2, b3, b4, b5, b6, b7, b8, b9, b10, b11⟩ := make_L hfu a6 a7 hG1 hj (by omega) s3
  obtain ⟨N3, n3, b, c1, c2, c3, c4, c5, c6⟩ := end_L b5 b6 hj
  have hG2 := hG1.fq b9
  have f3 : FMq n3 n2 := ⟨fun a _ _ z _ _ => c6 a z, fun j _ _ _ _ _ => by rw [c6 0 (by omega)]⟩
  refine ⟨N3, n3, t2, b, ?_, ?_, by omega, by omega, c3, c4, hG2.fq f3, FLa.trans ⟨fun a z _ _ _ => c5 a z, fun j _ _ _ _ _ => by rw [c5 152 (by omega)]⟩ (b7.trans a8.a), fun j z1 z2 => by rw [c5 152 (by omega), b8 j z1 z2, a8.2 j z1 z2], f3.trans (b9.trans a9.fq), fun j z1 z2 => by rw [c6 0 (by omega), b11 j z1 z2, a9.2 j z1 z2]⟩
  · rw [s0]
    simp (disch := omega) only [e21, e24, e6, nI_clamp, inb_nI, grd_true]
    rw [a3, s1, a4, bd_some, if_pos rfl, s2, b3, s4, if_pos rfl, s5, c1]
  · rw [tries0 hj, a5 (fun x => bd (mtry fu j x) (fin j)), b4, bd_some, c2]
theorem fee_L (hj : j < 3) : f_L_fee (nI j) = fee j ∧ f_L_freight (nI j) = freight j := by
  have h1 : j = 0 ∨ j = 1 ∨ j = 2 := by omega
  rcases h1 with rfl | rfl | rfl <;> decide
/-- an attempt of a question: the law and the reference -/
theorem attempt1_L (hfu : 5000 ≤ fu) (h : TN M m t u) (hP : PL M m) (hG : KG m) (hQ : QS M m) (hj : j < 3) (ht : t + 40 < 2 ^ 27) : ∃ N n t' x, f_L_attempt fu (nI j) 1 M = some (x, N) ∧ f_X11_tries fu (nI j) 1 m = some (x, n) ∧ (x = 0 ∨ x = 1 ∨ x = 2) ∧ t ≤ t' ∧ t' ≤ t + 40 ∧ TN N n t' u ∧ PL N n ∧ KG n ∧ QS N n ∧ FLa N M ∧ FMq n m := by
  obtain ⟨K1, K2, K3, K4, K5, s0, s1, s2, s3, s4, s5⟩ := attSplit (fu := fu) (p := nI j) (q := 1)
  have e21 : (21 : Int32) + nI j = nI (21 + j) := nI_add 21 j
  have e24 : (24 : Int32) + nI j = nI (24 + j) := nI_add 24 j
  have e6 : (6 : Int32) + nI j = nI (6 + j) := nI_add 6 j
  have h10 : ¬ (1 : Int32) = 0 := by decide
  obtain ⟨M1, N, n, t1, a1, a2, a3, a4, a5, a6, a7, a8, a9⟩ := await_L (j := j) hfu h hP hj (by omega)
  have hG1 := hG.fq a9.fq
  obtain ⟨q1, q2, q3, q4, q5, q6, q7⟩ := hQ
  have hQ1 : QS N n := ⟨by rw [a8.2 4 (by omega) (by omega), a9.2 52 (by omega) (by omega)]; exact q1, by rw [a8.2 5 (by omega) (by omega), a9.2 53 (by omega) (by omega)]; exact q2, by rw [a8.2 6 (by omega) (by omega), a9.2 54 (by omega) (by omega)]; exact q3, by rw [a8.2 7 (by omega) (by omega), a9.2 80 (by omega) (by omega)]; exact q4, by rw [a8.2 8 (by omega) (by omega), a9.2 81 (by omega) (by omega)]; exact q5, by rw [a8.2 9 (by omega) (by omega), a9.2 82 (by omega) (by omega)]; exact q6, by rw [a8.2 13 (by omega) (by omega), a9.2 55 (by omega) (by omega)]; exact q7⟩
  obtain ⟨q1, q2, q3, q4, q5, q6, q7⟩ := id hQ1
  obtain ⟨T1, T2⟩ := a6.time
  have hA : f_L_attempt fu (nI j) 1 M = (if N 152 1 - N 152 4 ≤ N 152 6 then K2 N else some (0, N)) := by
    rw [s0]
    simp (disch := omega) only [e21, e24, e6, nI_clamp, inb_nI, grd_true]
    rw [a3, s1, a4, bd_some, if_neg h10]
  have hB := tries1 (fu := fu) (m := m) hj rfl
  rw [a5 (fun n => if n 0 8 - n 0 52 ≤ n 0 54 then bd (mtry fu j n) (fun n' => fin j (paid n' j)) else some (0, n))] at hB
  rw [hA, hB, T1, T2, q1, q3]
  by_cases hlate : nI t1 - n 0 52 ≤ n 0 54
  · rw [if_pos hlate, if_pos hlate]
    obtain ⟨N2, n2, t2, b1, b2, b3, b4, b5, b6, b7, b8, b9, b10, b11⟩ := make_L hfu a6 a7 hG1 hj (by omega) s3
    have hG2 := hG1.fq b9
    let P := up (up (up N2 152 8 (N2 152 8 + 1)) 152 7 ((up N2 152 8 (N2 152 8 + 1)) 152 7 + f_L_fee (nI j))) 152 13 ((up (up N2 152 8 (N2 152 8 + 1)) 152 7 ((up N2 152 8 (N2 152 8 + 1)) 152 7 + f_L_fee (nI j))) 152 13 + f_L_fee (nI j))
    have hPd : P = up (up (up N2 152 8 (N2 152 8 + 1)) 152 7 (N2 152 7 + fee j)) 152 13 (N2 152 13 + fee j) := by
      show up (up (up _ _ _ _) _ _ _) _ _ _ = _
      rw [up_m (show 7 ≠ 8 by omega), up_m (show 13 ≠ 7 by omega), up_m (show 13 ≠ 8 by omega), (fee_L hj).1]
    have P152 : ∀ x, x ≠ 7 → x ≠ 8 → x ≠ 13 → P 152 x = N2 152 x := fun x z1 z2 z3 => by rw [hPd, up_m z3, up_m z1, up_m z2]
    have Po : ∀ a, a ≠ 152 → P a = N2 a := fun a ha => by rw [hPd, up_n ha, up_n ha, up_n ha]
    have pd0 : ∀ x, x ≠ 55 → x ≠ 80 → x ≠ 81 → paid n2 j 0 x = n2 0 x := fun x z1 z2 z3 => by simp only [paid]; rw [up_m z1, up_m z2, up_m z3]
    have pdo : ∀ a, a ≠ 0 → paid n2 j a = n2 a := fun a ha => by simp only [paid]; rw [up_n ha, up_n ha, up_n ha]
    have h5 : TN P (paid n2 j) t2 u := b5.cg (Po 147 (by omega)) (Po 148 (by omega)) (Po 144 (by omega)) ⟨P152 0 (by omega) (by omega) (by omega), P152 1 (by omega) (by omega) (by omega), P152 3 (by omega) (by omega) (by omega)⟩ (pd0 7 (by omega) (by omega) (by omega)) (pd0 8 (by omega) (by omega) (by omega)) (pd0 39 (by omega) (by omega) (by omega)) (pdo 5 (by omega)) (fun a _ _ => pdo a (by omega)) (pdo 10 (by omega))
    have h6 : PL P (paid n2 j) := b6.cg (Po 145 (by omega)) (fun a _ _ => pdo a (by omega))
    obtain ⟨N3, n3, b, c1, c2, c3, c4, c5, c6⟩ := end_L h5 h6 hj
    have f3 : FMq n3 n2 := ⟨fun a z _ z3 _ _ => by rw [c6 a z3, pdo a (by omega)], fun x z1 z2 z3 z4 z5 => by rw [c6 0 (by omega), pd0 x z5 z3 z4]⟩
    have f3' : FLa N3 N2 := ⟨fun a z _ _ z2 => by rw [c5 a z, Po a z2], fun x _ _ z1 z2 z3 => by rw [c5 152 (by omega), P152 x z1 z2 z3]⟩
    have w15 : n2 15 = fee := hG2.2.2.2.1
    refine ⟨N3, n3, t2, if b = true then 2 else 1, ?_, ?_, ?_, by omega, by omega, c3, c4, hG2.fq f3, ?_, f3'.trans (b7.trans a8.a), f3.trans (b9.trans a9.fq)⟩
    · rw [s2, b3, s4, if_neg h10, s5]
      exact c1
    · rw [b4, bd_some, c2]
    · cases b
      · exact Or.inr (Or.inl rfl)
      · exact Or.inr (Or.inr rfl)
    · have r1 : ∀ x, N3 152 x = P 152 x := fun x => by rw [c5 152 (by omega)]
      have r2 : ∀ x, n3 0 x = paid n2 j 0 x := fun x => by rw [c6 0 (by omega)]
      have l7 : P 152 7 = N2 152 7 + fee j := by rw [hPd, up_m (by omega), up_s]
      have l8 : P 152 8 = N2 152 8 + 1 := by rw [hPd, up_m (by omega), up_m (by omega), up_s]
      have l13 : P 152 13 = N2 152 13 + fee j := by rw [hPd, up_s]
      have m80 : paid n2 j 0 80 = n2 0 80 + fee j := by simp (disch := omega) only [paid, up_m, up_s, up_n, w15]
      have m81 : paid n2 j 0 81 = n2 0 81 + 1 := by simp only [paid]; rw [up_m (by omega), up_m (by omega), up_s]
      have m55 : paid n2 j 0 55 = n2 0 55 + fee j := by
        simp (disch := omega) only [paid, up_m, up_s, up_n, w15]
      refine ⟨?_, ?_, ?_, ?_, ?_, ?_, ?_⟩
      · rw [r1, r2, P152 4 (by omega) (by omega) (by omega), pd0 52 (by omega) (by omega) (by omega), b8 4 (by omega) (by omega), b11 52 (by omega) (by omega)]; exact q1
      · rw [r1, r2, P152 5 (by omega) (by omega) (by omega), pd0 53 (by omega) (by omega) (by omega), b8 5 (by omega) (by omega), b11 53 (by omega) (by omega)]; exact q2
      · rw [r1, r2, P152 6 (by omega) (by omega) (by omega), pd0 54 (by omega) (by omega) (by omega), b8 6 (by omega) (by omega), b11 54 (by omega) (by omega)]; exact q3
      · rw [r1, r2, l7, m80, b8 7 (by omega) (by omega), b11 80 (by omega) (by omega), q4]
      · rw [r1, r2, l8, m81, b8 8 (by omega) (by omega), b11 81 (by omega) (by omega), q5]
      · rw [r1, r2, P152 9 (by omega) (by omega) (by omega), pd0 82 (by omega) (by omega) (by omega), b8 9 (by omega) (by omega), b11 82 (by omega) (by omega)]; exact q6
      · rw [r1, r2, l13, m55, b8 13 (by omega) (by omega), b11 55 (by omega) (by omega), q7]
  · rw [if_neg hlate, if_neg hlate]
    exact ⟨N, n, t1, 0, rfl, rfl, Or.inl rfl, a1, by omega, a6, a7, hG1, hQ1, a8.a, a9.fq⟩
theorem request_L0 (hfu : 5000 ≤ fu) (hj : j < 3) : ∀ d i k k2 (M m : Mem) (t : Nat), i + d = 3 → d < k → d < k2 → TN M m t u → PL M m → KG m → QS M m → t + 40 * d < 2 ^ 27 →
    ∃ N n t' b, f_L_request_L3 fu (nI j) k (nI i) M = some (bI b, N) ∧ f_X11_requests_L4 fu (nI j) (fun (x2_2 : Int32) (M_3 : Mem) => (if x2_2 = 2 then some (1, M_3) else some (0, M_3))) k2 1 (nI i) m = some (bI b, n) ∧ t ≤ t' ∧ t' ≤ t + 40 * d ∧ TN N n t' u ∧ PL N n ∧ KG n ∧ QS N n ∧ FLa N M ∧ FMq n m := by
  intro d
  have h12 : ¬ (1 : Int32) = 2 := by decide
  have h02 : ¬ (0 : Int32) = 2 := by decide
  have h01 : ¬ (0 : Int32) = 1 := by decide
  have h21 : ¬ (2 : Int32) = 1 := by decide
  induction d with
  | zero =>
    intro i k k2 M m t h1 h2 h3 hT hP hG hQ ht
    obtain ⟨k, rfl⟩ := fu1 h2
    obtain ⟨k2, rfl⟩ := fu1 h3
    obtain rfl : i = 3 := by omega
    exact ⟨M, m, t, false, rfl, rfl, by omega, by omega, hT, hP, hG, hQ, .rfl, .rfl⟩
  | succ d ih =>
    intro i k k2 M m t h1 h2 h3 hT hP hG hQ ht
    obtain ⟨k, rfl⟩ := fu1 h2
    obtain ⟨k2, rfl⟩ := fu1 h3
    have h4 : ¬ 3 ≤ i := by omega
    have hi3 : ¬ (3 : Int32) ≤ nI i := by rw [lit, nI_leI (by omega) (by omega)]; exact h4
    have hi1 : nI i + 1 = nI (i + 1) := nI_add i 1
    obtain ⟨N, n, t1, x, e1, e2, e3, e4, e5, e6, e7, e8, e9, e10, e11⟩ := attempt1_L (j := j) hfu hT hP hG hQ hj (by omega)
    have done : ∀ (x : Int32) (n : Mem), (x = 0 ∨ x = 2) → f_X11_requests_L4 fu (nI j) (fun (x2_2 : Int32) (M_3 : Mem) => (if x2_2 = 2 then some (1, M_3) else some (0, M_3))) k2 x (nI (i + 1)) n = some ((if x = 2 then 1 else 0), n) := by
      intro x n hx
      obtain ⟨k3, rfl⟩ := fu1 (show d < k2 by omega)
      rcases hx with rfl | rfl
      · simp only [f_X11_requests_L4, if_neg h02, if_neg h01, ite_self]
      · simp only [f_X11_requests_L4, if_neg h21, ite_self, ↓reduceIte]
    simp only [f_L_request_L3, f_X11_requests_L4, if_neg hi3, ↓reduceIte, nm_d, hi1, e1, e2, bm_some]
    rcases e3 with rfl | rfl | rfl
    · rw [if_neg h01, if_neg h02, done 0 n (Or.inl rfl), if_neg h02]
      exact ⟨N, n, t1, false, rfl, rfl, e4, by omega, e6, e7, e8, e9, e10, e11⟩
    · rw [if_pos rfl]
      obtain ⟨N2, n2, t2, b, g1, g2, g3, g4, g5, g6, g7, g8, g9, g10⟩ := ih (i + 1) k k2 N n t1 (by omega) (by omega) (by omega) e6 e7 e8 e9 (by omega)
      exact ⟨N2, n2, t2, b, g1, g2, by omega, by omega, g5, g6, g7, g8, g9.trans e10, g10.trans e11⟩
    · rw [if_neg h21, if_pos rfl, done 2 n (Or.inr rfl), if_pos rfl]
      exact ⟨N, n, t1, true, rfl, rfl, e4, by omega, e6, e7, e8, e9, e10, e11⟩
theorem request_L (hfu : 5000 ≤ fu) (hj : j < 3) (hT : TN M m t u) (hP : PL M m) (hG : KG m) (hQ : QS M m) (ht : t + 120 < 2 ^ 27) : ∃ N n t' b, f_L_request fu (nI j) M = some (bI b, N) ∧ f_X11_requests fu (nI j) m = some (bI b, n) ∧ t ≤ t' ∧ t' ≤ t + 120 ∧ TN N n t' u ∧ PL N n ∧ KG n ∧ QS N n ∧ FLa N M ∧ FMq n m :=
  request_L0 hfu hj 3 0 fu fu M m t (by omega) (by omega) (by omega) hT hP hG hQ (by omega)
end TryL
