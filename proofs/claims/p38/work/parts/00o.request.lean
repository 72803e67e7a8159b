/-! ===== a request of a query: both ===== -/
def fin (j : Nat) (n : Mem) : Option (Int32 × Mem) := if n 11 j ≤ 0 then some (2, n) else some (1, up n 11 j (n 11 j - 1))
def paid (n : Mem) (j : Nat) : Mem := up (up (up n 0 81 (n 0 81 + 1)) 0 80 (n 0 80 + n 15 j)) 0 55 (n 0 55 + n 15 j)
def QR (M m : Mem) (t0 dl c0 sc : Nat) : Prop := M 120 8 = nI (t0 + dl) ∧ m 0 52 = nI t0 ∧ m 0 54 = nI dl ∧ M 90 9 = nI (c0 + sc) ∧ m 0 80 = nI (c0 + sc) ∧ m 0 55 = nI sc ∧ M 90 10 = m 0 81 ∧ M 90 11 = m 0 82
def FCq (N M : Mem) : Prop := (∀ a, a ≠ 1 → a ≠ 2 → a ≠ 3 → a ≠ 52 → a ≠ 55 → a ≠ 56 → a ≠ 90 → N a = M a) ∧ ∀ j, j ≠ 9 → j ≠ 10 → N 90 j = M 90 j
def FMq (n m : Mem) : Prop := (∀ a, 0 < a → a < 30 ∨ 41 < a → a ≠ 11 → a ≠ 13 → a ≠ 14 → n a = m a) ∧ ∀ j, j ≠ 8 → j ≠ 39 → j ≠ 80 → j ≠ 81 → j ≠ 55 → n 0 j = m 0 j
section Request
variable {fu t u d j t0 dl c0 sc : Nat} {M m N n : Mem}
theorem FCq.rfl : FCq M M := ⟨fun _ _ _ _ _ _ _ _ => Eq.refl _, fun _ _ _ => Eq.refl _⟩
theorem FMq.rfl : FMq m m := ⟨fun _ _ _ _ _ _ => Eq.refl _, fun _ _ _ _ _ _ => Eq.refl _⟩
theorem FCq.trans {P : Mem} (h : FCq N P) (h' : FCq P M) : FCq N M := ⟨fun a h1 h2 h3 h4 h5 h6 h7 => by rw [h.1 a h1 h2 h3 h4 h5 h6 h7, h'.1 a h1 h2 h3 h4 h5 h6 h7], fun j h1 h2 => by rw [h.2 j h1 h2, h'.2 j h1 h2]⟩
theorem FMq.trans {P : Mem} (h : FMq n P) (h' : FMq P m) : FMq n m := ⟨fun a h1 h2 h3 h4 h5 => by rw [h.1 a h1 h2 h3 h4 h5, h'.1 a h1 h2 h3 h4 h5], fun j h1 h2 h3 h4 h5 => by rw [h.2 j h1 h2 h3 h4 h5, h'.2 j h1 h2 h3 h4 h5]⟩
theorem tries0 (hj : j < 3) : f_X11_tries fu (nI j) 0 m = (if m 13 j = m 0 8 / 10 then (if m 14 j < m 8 j then bd (mtry fu j m) (fin j) else bd (f_X11_goes fu (10 - (m 0 8 - m 0 8 / 10 * 10)) m) (fun x => bd (mtry fu j x) (fin j))) else bd (mtry fu j m) (fin j)) := by
  simp (disch := omega) only [f_X11_tries, mtry, nm_d, jn_d, inb_nI, grd_true, nI_clamp, ↓reduceIte, up_n, up_s, fin]
  rfl
theorem tries1 (hj : j < 3) {K : Mem → Option (Int32 × Mem)} (hK : K = fun n => if n 0 8 - n 0 52 ≤ n 0 54 then bd (mtry fu j n) (fun n' => fin j (paid n' j)) else some (0, n)) : f_X11_tries fu (nI j) 1 m = (if m 13 j = m 0 8 / 10 then (if m 14 j < m 8 j then K m else bd (f_X11_goes fu (10 - (m 0 8 - m 0 8 / 10 * 10)) m) (fun x => K x)) else K m) := by
  subst hK
  have h10 : ¬ (1 : Int32) = 0 := by decide
  simp (disch := omega) only [f_X11_tries, mtry, nm_d, jn_d, inb_nI, grd_true, nI_clamp, ↓reduceIte, up_n, up_s, up_m, fin, paid, f_X11_pays, bd_some, h10]
theorem requestL (hfu : 5000 ≤ fu) (hj : j < 3) : ∀ d i k k2 (M m : Mem) (t sc : Nat), i + d = 3 → d < k → d < k2 → KR M m t u → QR M m t0 dl c0 sc → t0 ≤ t → t + 40 * d < 2 ^ 29 → t0 + dl < 2 ^ 29 → c0 + sc + 5 * d < 2 ^ 29 →
    ∃ N n t' sc' r, f_X1_request_L2 fu (nI j) k (nI i) M = some (r, N) ∧ f_X11_requests_L4 fu (nI j) (fun (x2_2 : Int32) (M_3 : Mem) => (if x2_2 = 2 then some (1, M_3) else some (0, M_3))) k2 1 (nI i) m = some (r, n) ∧ (r = 0 ∨ r = 1) ∧ t ≤ t' ∧ t' ≤ t + 40 * d ∧ sc ≤ sc' ∧ sc' ≤ sc + 5 * d ∧ KR N n t' u ∧ QR N n t0 dl c0 sc' ∧ FCq N M ∧ FMq n m := by
  intro d
  have h10 : ¬ (1 : Int32) = 0 := by decide
  have h12 : ¬ (1 : Int32) = 2 := by decide
  have h02 : ¬ (0 : Int32) = 2 := by decide
  have h01 : ¬ (0 : Int32) = 1 := by decide
  have h21 : ¬ (2 : Int32) = 1 := by decide
  induction d with
  | zero =>
    intro i k k2 M m t sc h1 h2 h3 hk hq ht0 ht hl hc
    obtain ⟨k, rfl⟩ := fu1 h2
    obtain ⟨k2, rfl⟩ := fu1 h3
    obtain rfl : i = 3 := by omega
    refine ⟨M, m, t, sc, 0, ?_, ?_, Or.inl rfl, by omega, by omega, by omega, by omega, hk, hq, .rfl, .rfl⟩
    · rfl
    · rfl
  | succ d ih =>
    intro i k k2 M m t sc h1 h2 h3 hk hq ht0 ht hl hc
    obtain ⟨k, rfl⟩ := fu1 h2
    obtain ⟨k2, rfl⟩ := fu1 h3
    have h4 : ¬ 3 ≤ i := by omega
    have hi3 : ¬ (3 : Int32) ≤ nI i := by rw [lit, nI_leI (by omega) (by omega)]; exact h4
    have hi1 : nI i + 1 = nI (i + 1) := nI_add i 1
    have eM : f_X11_requests_L4 fu (nI j) (fun (x2_2 : Int32) (M_3 : Mem) => (if x2_2 = 2 then some (1, M_3) else some (0, M_3))) (k2 + 1) 1 (nI i) m = bm (f_X11_tries fu (nI j) 1 m) (fun r_11 M_12 => f_X11_requests_L4 fu (nI j) (fun (x2_2 : Int32) (M_3 : Mem) => (if x2_2 = 2 then some (1, M_3) else some (0, M_3))) k2 r_11 (nI (i + 1)) M_12) := by
      simp only [f_X11_requests_L4, if_neg hi3, ↓reduceIte, nm_d, hi1]
    have eC : f_X1_request_L2 fu (nI j) (k + 1) (nI i) M = bd (f_X8_awaitQuota fu (nI j) M) (fun M_5 => (if (M_5 1 0) ≤ (M_5 120 8) then bm (f_X8_attempt fu (nI j) (up (up M_5 90 10 (M_5 90 10 + 1)) 90 9 (M_5 90 9 + fee j))) (fun r_11 M_12 => (if r_11 = 0 then f_X1_request_L2 fu (nI j) k (nI (i + 1)) M_12 else some (1, M_12))) else some (0, M_5))) := by
      simp (disch := omega) only [f_X1_request_L2, if_neg hi3, nm_d, hi1, inb_nI, grd_true, nI_clamp, up_m]
    have done : ∀ (x : Int32) (n : Mem), (x = 0 ∨ x = 2) → f_X11_requests_L4 fu (nI j) (fun (x2_2 : Int32) (M_3 : Mem) => (if x2_2 = 2 then some (1, M_3) else some (0, M_3))) k2 x (nI (i + 1)) n = some ((if x = 2 then 1 else 0), n) := by
      intro x n hx
      obtain ⟨k3, rfl⟩ := fu1 (show d < k2 by omega)
      rcases hx with rfl | rfl
      · simp only [f_X11_requests_L4, if_neg h02, if_neg h01, ite_self]
      · simp only [f_X11_requests_L4, if_neg h21, ite_self, ↓reduceIte]
    rw [eM, tries1 hj rfl, eC]
    refine await2 (K := fun n => if n 0 8 - n 0 52 ≤ n 0 54 then bd (mtry fu j n) (fun n' => fin j (paid n' j)) else some (0, n)) (R := fun R => ∃ N n t' sc' r, bd (f_X8_awaitQuota fu (nI j) M) (fun M_5 => (if (M_5 1 0) ≤ (M_5 120 8) then bm (f_X8_attempt fu (nI j) (up (up M_5 90 10 (M_5 90 10 + 1)) 90 9 (M_5 90 9 + fee j))) (fun r_11 M_12 => (if r_11 = 0 then f_X1_request_L2 fu (nI j) k (nI (i + 1)) M_12 else some (1, M_12))) else some (0, M_5))) = some (r, N) ∧ bm R (fun r_11 M_12 => f_X11_requests_L4 fu (nI j) (fun (x2_2 : Int32) (M_3 : Mem) => (if x2_2 = 2 then some (1, M_3) else some (0, M_3))) k2 r_11 (nI (i + 1)) M_12) = some (r, n) ∧ (r = 0 ∨ r = 1) ∧ t ≤ t' ∧ t' ≤ t + 40 * (d + 1) ∧ sc ≤ sc' ∧ sc' ≤ sc + 5 * (d + 1) ∧ KR N n t' u ∧ QR N n t0 dl c0 sc' ∧ FCq N M ∧ FMq n m) hfu hk (by omega) hj ?_
    intro N n t1 ht1 ht2 hk1 fC fM e1
    rw [e1, bd_some]
    obtain ⟨q1, q2, q3, q4, q5, q6, q7, q8⟩ := hq
    have p1 : N 120 8 = nI (t0 + dl) := by rw [fC 120 (by omega) (by omega) (by omega)]; exact q1
    have p2 : n 0 52 = nI t0 := by rw [fM.2 52 (by omega) (by omega)]; exact q2
    have p3 : n 0 54 = nI dl := by rw [fM.2 54 (by omega) (by omega)]; exact q3
    have p90 : N 90 = M 90 := fC 90 (by omega) (by omega) (by omega)
    have hq1 : QR N n t0 dl c0 sc := ⟨p1, p2, p3, by rw [p90]; exact q4, by rw [fM.2 80 (by omega) (by omega)]; exact q5, by rw [fM.2 55 (by omega) (by omega)]; exact q6, by rw [p90, fM.2 81 (by omega) (by omega)]; exact q7, by rw [p90, fM.2 82 (by omega) (by omega)]; exact q8⟩
    have fCq : FCq N M := ⟨fun a h1 h2 h3 _ _ _ _ => fC a h1 h2 h3, fun j _ _ => by rw [p90]⟩
    have fMq : FMq n m := ⟨fun a h1 h2 _ _ _ => fM.1 a h1 h2, fun j h1 h2 _ _ _ => fM.2 j h1 h2⟩
    have r1 : N 1 0 = nI t1 := hk1.1.1
    have r2 : n 0 8 = nI t1 := hk1.1.2.1
    rw [r1, p1, r2, p2, p3]
    by_cases hlate : t1 ≤ t0 + dl
    · have e2 : nI t1 ≤ nI (t0 + dl) := (nI_leI (by omega) (by omega)).mpr hlate
      have e3 : nI t1 - nI t0 ≤ nI dl := by rw [pk_sub (by omega), nI_leI (by omega) (by omega)]; omega
      rw [if_pos e2, if_pos e3]
      have hfr : QR (up (up N 90 10 (N 90 10 + 1)) 90 9 (N 90 9 + fee j)) (paid n j) t0 dl c0 (sc + 5) ∨ True := Or.inr trivial
      have hk2 : KR (up (up N 90 10 (N 90 10 + 1)) 90 9 (N 90 9 + fee j)) n t1 u := hk1.cg (fun a _ _ _ => by rw [up_n (by omega), up_n (by omega)]) rfl rfl rfl (fun _ _ _ => rfl) (fun _ _ _ => rfl)
      obtain ⟨N2, n2, n2', t2, r, g1, g2, g3, g4, g5, g6, g7, g8, g9⟩ := attempt2 hfu hk2 (by omega) hj
      rw [g1, bm_some, g2, bd_some]
      have hfee : n2' 15 = fee := by rw [(g8 15 (by omega) (by omega) (by omega) (by omega) (by omega)).2, fM.1 15 (by omega) (by omega)]; exact hk.2.2.1.2.2.2.1
      obtain ⟨fe, hf1, hf2⟩ : ∃ fe, fe ≤ 5 ∧ fee j = nI fe := by
        simp only [fee]
        split
        · exact ⟨5, by omega, rfl⟩
        · split
          · exact ⟨1, by omega, rfl⟩
          · exact ⟨3, by omega, rfl⟩
      have hpk : ∀ x, KR N2 x t2 u → KR N2 (paid x j) t2 u := fun x hx => hx.cg (fun _ _ _ _ => rfl) (by simp (disch := omega) only [paid, up_m]) (by simp (disch := omega) only [paid, up_m]) (by simp (disch := omega) only [paid, up_m]) (fun a _ _ => by simp (disch := omega) only [paid, up_n]) (fun a _ _ => by simp (disch := omega) only [paid, up_n])
      have hF : fin j (paid n2' j) = some ((if r = 0 then 1 else 2), paid n2 j) := by
        have e0 : paid n2' j 11 = n2' 11 := by simp (disch := omega) only [paid, up_n]
        simp only [fin, e0]
        rcases g5 with ⟨z1, z2, z3⟩ | ⟨z1, z2, z3⟩
        · rw [if_pos z1, z2, z3, if_neg h10]
        · rw [if_neg z1, z2, z3, if_pos rfl]
          congr 2
          funext a
          simp only [paid]
          by_cases ha : a = 11
          · subst ha; simp (disch := omega) only [up_n, up_r]
          · by_cases hb : a = 0
            · subst hb; simp (disch := omega) only [up_n, up_r]
            · simp (disch := omega) only [up_n]
      have hr : r = 0 ∨ r = 1 := by rcases g5 with ⟨_, _, z3⟩ | ⟨_, _, z3⟩ <;> simp [z3]
      have s90 : N2 90 = upd (upd (N 90) 10 (N 90 10 + 1)) 9 (N 90 9 + fee j) := by rw [g7 90 (by omega) (by omega) (by omega) (by omega) (by omega) (by omega), up_r, up_r]
      have w15 : n2 15 = fee := by rw [(g8 15 (by omega) (by omega) (by omega) (by omega) (by omega)).1, fM.1 15 (by omega) (by omega)]; exact hk.2.2.1.2.2.2.1
      have hq2 : QR N2 (paid n2 j) t0 dl c0 (sc + fe) := by
        obtain ⟨q1, q2, q3, q4, q5, q6, q7, q8⟩ := hq1
        refine ⟨?_, ?_, ?_, ?_, ?_, ?_, ?_, ?_⟩
        · rw [g7 120 (by omega) (by omega) (by omega) (by omega) (by omega) (by omega), up_n (by omega), up_n (by omega)]; exact q1
        · simp (disch := omega) only [paid, up_m]; rw [(g9 52 (by omega) (by omega)).1]; exact q2
        · simp (disch := omega) only [paid, up_m]; rw [(g9 54 (by omega) (by omega)).1]; exact q3
        · rw [s90, pk_us, q4, hf2, nI_add, Nat.add_assoc]
        · simp (disch := omega) only [paid, up_m, up_s]; rw [(g9 80 (by omega) (by omega)).1, q5, w15, hf2, nI_add, Nat.add_assoc]
        · simp (disch := omega) only [paid, up_m, up_s]; rw [(g9 55 (by omega) (by omega)).1, q6, w15, hf2, nI_add]
        · rw [s90, pk_un (by omega), pk_us]; simp (disch := omega) only [paid, up_m, up_s]; rw [(g9 81 (by omega) (by omega)).1, q7]
        · rw [s90, pk_un (by omega), pk_un (by omega)]; simp (disch := omega) only [paid, up_m]; rw [(g9 82 (by omega) (by omega)).1, q8]
      have fC2 : FCq N2 M := ⟨fun a z1 z2 z3 z4 z5 z6 z7 => by rw [g7 a z1 z2 z3 z4 z5 z6, up_n z7, up_n z7]; exact fC a z1 z2 z3, fun i z1 z2 => by rw [s90, pk_un z1, pk_un z2, p90]⟩
      have fM2 : FMq (paid n2 j) m := ⟨fun a z1 z2 z3 z4 z5 => by simp (disch := omega) only [paid, up_n]; rw [(g8 a z1 z2 z3 z4 z5).1]; exact fM.1 a z1 z2, fun i z1 z2 z3 z4 z5 => by simp (disch := omega) only [paid, up_m]; rw [(g9 i z1 z2).1]; exact fM.2 i z1 z2⟩
      rw [hF, bm_some]
      rcases hr with rfl | rfl
      · simp only [↓reduceIte]
        obtain ⟨N3, n3, t3, sc3, r3, v1, v2, v3, v4, v5, v6, v7, v8, v9, v10, v11⟩ := ih (i + 1) k k2 N2 (paid n2 j) t2 (sc + fe) (by omega) (by omega) (by omega) (hpk _ g6) hq2 (by omega) (by omega) hl (by omega)
        exact ⟨N3, n3, t3, sc3, r3, v1, v2, v3, by omega, by omega, by omega, by omega, v8, v9, v10.trans fC2, v11.trans fM2⟩
      · simp only [h10, ↓reduceIte]
        exact ⟨N2, paid n2 j, t2, sc + fe, 1, rfl, by rw [done 2 _ (Or.inr rfl), if_pos rfl], Or.inr rfl, by omega, by omega, by omega, by omega, hpk _ g6, hq2, fC2, fM2⟩
    · have e2 : ¬ nI t1 ≤ nI (t0 + dl) := fun hh => hlate ((nI_leI (by omega) (by omega)).mp hh)
      have e3 : ¬ nI t1 - nI t0 ≤ nI dl := by rw [pk_sub (by omega), nI_leI (by omega) (by omega)]; omega
      rw [if_neg e2, if_neg e3, bm_some]
      exact ⟨N, n, t1, sc, 0, rfl, by rw [done 0 _ (Or.inl rfl), if_neg h02], Or.inl rfl, by omega, by omega, by omega, by omega, hk1, hq1, fCq, fMq⟩
theorem request2 (hfu : 5000 ≤ fu) (hj : j < 3) (hk : KR M m t u) (hq : QR M m t0 dl c0 sc) (ht0 : t0 ≤ t) (ht : t + 120 < 2 ^ 29) (hl : t0 + dl < 2 ^ 29) (hc : c0 + sc + 15 < 2 ^ 29) : ∃ N n t' sc' r, f_X1_request fu (nI j) M = some (r, N) ∧ f_X11_requests fu (nI j) m = some (r, n) ∧ (r = 0 ∨ r = 1) ∧ t ≤ t' ∧ t' ≤ t + 120 ∧ sc ≤ sc' ∧ sc' ≤ sc + 15 ∧ KR N n t' u ∧ QR N n t0 dl c0 sc' ∧ FCq N M ∧ FMq n m :=
  requestL hfu hj 3 0 fu fu M m t sc (by omega) (by omega) (by omega) hk hq ht0 (by omega) hl (by omega)
end Request
