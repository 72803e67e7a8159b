/-! ===== a question: the law and the reference ===== -/
def ordN (od : Nat → Nat) : Nat → Nat
  | 0 => 0
  | p + 1 => ordN od p + od p * 4 ^ p
def AQ (M m : Mem) (t u nS nL nC nO : Nat) (RR : Nat → List Row) (tk : Nat → Bool) (p o fr : Nat) (od : Nat → Nat) : Prop := AL M m t u nS nL nC nO RR ∧ TKL M m tk p ∧ (∀ j, tk j = true → j < nS) ∧ e3 M = true ∧ m 0 53 = nI fr ∧ (m 0 78 = nI o ∧ o < 8 ∧ ∀ j, j < 3 → tk j = false → o.testBit j = false) ∧ M 152 11 = nI o ∧ (∀ j, j < 3 → tk j = true → ∃ A, SL M m j A) ∧ (∀ j, j < 3 → tk j = true → ∃ h a b, h < 4 ∧ a ≤ u ∧ b ≤ u ∧ M 151 (4 * j) = nI h ∧ M 151 (4 * j + 2) = nI a ∧ M 151 (4 * j + 3) = nI b ∧ m 46 j = nI a ∧ m 47 j = nI b) ∧ (∀ x, x < p → od x < 3 ∧ tk (od x) = true ∧ m 57 x = 10 * nI (od x) + M 151 (4 * od x)) ∧ m 0 0 = 0
def FLq (N M : Mem) : Prop := (∀ a, a ≠ 145 → a ≠ 147 → a ≠ 148 → a ≠ 149 → a ≠ 150 → a ≠ 151 → a ≠ 152 → a ≠ 153 → a ≠ 157 → N a = M a) ∧ (∀ j, j ≠ 1 → j ≠ 3 → j ≠ 7 → j ≠ 8 → j ≠ 9 → j ≠ 11 → j ≠ 13 → j ≠ 14 → N 152 j = M 152 j) ∧ ∀ j, 6 ≤ j → N 153 j = M 153 j
def FMa (n m : Mem) : Prop := (∀ a, (1 ≤ a ∧ a ≤ 5) ∨ a = 17 ∨ (19 ≤ a ∧ a ≤ 29) ∨ (49 ≤ a ∧ a ≠ 57) → n a = m a) ∧ ∀ j, j ≠ 8 → j ≠ 39 → j ≠ 55 → j ≠ 62 → j ≠ 63 → j ≠ 78 → j ≠ 80 → j ≠ 81 → j ≠ 82 → j ≠ 83 → n 0 j = m 0 j
section AsksL
variable {fu t u i j s o c p g a b fr nS nL nC nO l : Nat} {M m N n : Mem} {RR : Nat → List Row} {tk : Nat → Bool} {od : Nat → Nat}
theorem FLq.rfl : FLq M M := ⟨fun _ _ _ _ _ _ _ _ _ _ => Eq.refl _, fun _ _ _ _ _ _ _ _ _ => Eq.refl _, fun _ _ => Eq.refl _⟩
theorem FLq.trans {P : Mem} (h : FLq N P) (h' : FLq P M) : FLq N M := ⟨fun a h1 h2 h3 h4 h5 h6 h7 h8 h9 => by rw [h.1 a h1 h2 h3 h4 h5 h6 h7 h8 h9, h'.1 a h1 h2 h3 h4 h5 h6 h7 h8 h9], fun j h1 h2 h3 h4 h5 h6 h7 h8 => by rw [h.2.1 j h1 h2 h3 h4 h5 h6 h7 h8, h'.2.1 j h1 h2 h3 h4 h5 h6 h7 h8], fun j h1 => by rw [h.2.2 j h1, h'.2.2 j h1]⟩
theorem FMa.rfl : FMa m m := ⟨fun _ _ => Eq.refl _, fun _ _ _ _ _ _ _ _ _ _ _ => Eq.refl _⟩
theorem FMa.trans {q : Mem} (h : FMa n q) (h' : FMa q m) : FMa n m := ⟨fun a h1 => by rw [h.1 a h1, h'.1 a h1], fun j h1 h2 h3 h4 h5 h6 h7 h8 h9 h10 => by rw [h.2 j h1 h2 h3 h4 h5 h6 h7 h8 h9 h10, h'.2 j h1 h2 h3 h4 h5 h6 h7 h8 h9 h10]⟩
theorem FLk.q (h : FLk i N M) : FLq N M := ⟨h.1, fun j h1 h2 h3 h4 h5 _ h6 h7 => h.2.1 j h1 h2 h3 h4 h5 h6 h7, h.2.2.1⟩
theorem FMk.fa (h : FMk i n m) : FMa n m := ⟨h.1, h.2.2⟩
theorem lor_ob : ∀ (o : Fin 8) (i : Fin 3) (b : Bool), o.val.testBit i.val = false → nI o ||| (bI b <<< (nI i &&& 31)) = nI (ob o i b) := by decide +kernel
theorem ob_bit : ∀ (o : Fin 8) (i j : Fin 3) (b : Bool), o.val.testBit i.val = false → i ≠ j → (ob o i b).testBit j.val = o.val.testBit j.val := by decide +kernel
theorem lord : ∀ (s x : Fin 3), nI s <<< ((2 * nI x) &&& 31) = nI (s * 4 ^ x.val) := by decide +kernel
theorem AL.f11 (h : AL M m t u nS nL nC nO RR) (f : ∀ a, a ≠ 152 → N a = M a) (f2 : ∀ j, j ≠ 11 → N 152 j = M 152 j) : AL N m t u nS nL nC nO RR :=
  h.of (h.1.1.cg (f 147 (by omega)) (f 148 (by omega)) (f 144 (by omega)) ⟨f2 0 (by omega), f2 1 (by omega), f2 3 (by omega)⟩ rfl rfl rfl rfl (fun _ _ _ => rfl) rfl) (h.1.2.1.cg (f 145 (by omega)) (fun _ _ _ => rfl)) h.1.2.2.1 (h.1.2.2.2.cg ⟨f2 4 (by omega), f2 5 (by omega), f2 6 (by omega), f2 7 (by omega), f2 8 (by omega), f2 9 (by omega), f2 13 (by omega)⟩ (fun _ _ => rfl)) (h.2.2.2.1.cg (fun j _ => by rw [f 153 (by omega)]) rfl) (f 142 (by omega)) (f 143 (by omega)) (f 146 (by omega)) (fun j _ => by rw [f 153 (by omega)]) (fun _ _ => rfl) (fun _ _ _ => rfl)
theorem ordN_cg {od' : Nat → Nat} : ∀ p, (∀ x, x < p → od' x = od x) → ordN od' p = ordN od p := fun p => by
  induction p with
  | zero => intro _; rfl
  | succ p ih => intro h; simp only [ordN, ih (fun x hx => h x (by omega)), h p (by omega)]
theorem askL {k392 : Int32 → Mem → Option (Int32 × Mem)} {k136 : Mem → Option (Int32 × Mem)} (hfu : 5000 ≤ fu) : ∀ d x k k' (M m : Mem) (t : Nat) (tk : Nat → Bool) (o : Nat) (od : Nat → Nat), x + d = nS → d < k → d < k' → AQ M m t u nS nL nC nO RR tk x o fr od → t + 480 * d + 480 < 2 ^ 26 →
    ∃ N n t' tk' o' od', f_L_asks_L229 fu k392 k (nI (ordN od x)) (nI x) M = k392 (nI (ordN od' nS)) N ∧ f_X11_ask_L114 fu k136 k' m = k136 n ∧ t ≤ t' ∧ t' ≤ t + 480 * d ∧ AQ N n t' u nS nL nC nO RR tk' nS o' fr od' ∧ FLq N M ∧ FMa n m := by
  intro d
  induction d with
  | zero =>
    intro x k k' M m t tk o od h1 h2 h3 hQ ht
    obtain ⟨k, rfl⟩ := fu1 h2
    obtain ⟨k', rfl⟩ := fu1 h3
    obtain rfl : x = nS := by omega
    have hS3 := hQ.1.2.1.2.1.2
    refine ⟨M, m, t, tk, o, od, ?_, ?_, Nat.le_refl _, by omega, hQ, .rfl, .rfl⟩
    · simp (disch := omega) only [f_L_asks_L229, hQ.1.2.1.1.1.1, nI_leI, Nat.le_refl, if_true]
    · simp (disch := omega) only [f_X11_ask_L114, hQ.1.2.1.2.1.1, hQ.2.1.2.2.1, nI_leI, Nat.le_refl, if_true]
  | succ d ih =>
    intro x k k' M m t tk o od h1 h2 h3 hQ ht
    obtain ⟨k, rfl⟩ := fu1 h2
    obtain ⟨k', rfl⟩ := fu1 h3
    obtain ⟨hAL, hT, htS, he3, hfr, ⟨h78, ho8, hbit⟩, h11, hSL, hw, hod, h00⟩ := id hQ
    have hD := hAL.2.1.1
    have hG := hAL.2.1.2
    have hS3 := hG.1.2
    have hx : ¬ nS ≤ x := by omega
    -- a seat that is left
    obtain ⟨jl, jl1, jl2⟩ : ∃ j, j < nS ∧ tk j = false := by
      by_cases hex : ∃ j, j < nS ∧ tk j = false
      · exact hex
      · exfalso
        have hall : ∀ j, j < nS → tk j = true := fun j hj => by
          cases h : tk j with
          | true => rfl
          | false => exact absurd ⟨j, hj, h⟩ hex
        have hc := hT.2.2.2
        simp only [cn3] at hc
        have e0 := hall 0
        have e1 := hall 1
        have e2 := hall 2
        have h4 : nS = 1 ∨ nS = 2 ∨ nS = 3 := by omega
        rcases h4 with rfl | rfl | rfl
        · rw [e0 (by omega), if_pos rfl] at hc; omega
        · rw [e0 (by omega), e1 (by omega), if_pos rfl] at hc; omega
        · rw [e0 (by omega), e1 (by omega), e2 (by omega), if_pos rfl] at hc; omega
    let z : Nat → Nat := fun j => (m 18 (m 19 j).toNatClampNeg).toNatClampNeg
    have hz : ∀ j, j < nS → ∃ s, s < 6 ∧ m 19 j = nI s ∧ m 18 s = nI (z j) ∧ z j ≤ 12 ∧ M 153 s = m 18 s := fun j hj => by
      obtain ⟨s, s1, s2⟩ := hG.src hj
      obtain ⟨w1, w, w2, w3⟩ := hAL.2.2.2.1 s s1
      have : z j = w := by show (m 18 (m 19 j).toNatClampNeg).toNatClampNeg = w; rw [s2, nI_clamp (by omega), w3, nI_clamp (by omega)]
      exact ⟨s, s1, s2, by rw [this]; exact w3, by rw [this]; exact w2, w1⟩
    obtain ⟨o', n1, n2, n3, n4⟩ := nextB (fu := fu) (k326 := fun (x20_99 : Int32) => bd (f_L_take fu x20_99 M) (fun M_101 => nm (nI (ordN od x) + (x20_99 <<< ((2 * nI x) &&& 31))) (fun x18_102 => grd (inb ((4 * x20_99) + 1) 12) (nm (up M_101 152 11 ((M_101 152 11) ||| ((M_101 151 ((4 * x20_99) + 1).toNatClampNeg) <<< (x20_99 &&& 31)))) (fun M_104 => nm (nI x + 1) (fun x19_105 => f_L_asks_L229 fu k392 k x18_102 x19_105 M_104)))))) hfu hD hG hT hz nS 0 fu fu none (by omega) (by omega) (by omega) (fun f hf => by cases hf)
    cases o' with
    | none =>
      have := (n4 rfl).2 jl (Nat.zero_le _) jl1
      rw [jl2] at this
      cases this
    | some i =>
      obtain ⟨hi, hit⟩ := n3 i rfl
      obtain ⟨N, n, t', g1, g2, A, h, opn, a, b, q1, q2, q3, q4, q5, q6, q7, q8, ⟨q9, q10, q11, q12, q13, q14⟩, q15, q16, q17, q18, q19, q20⟩ := take_L (fu := fu) (p := x) (o := o) (fr := fr) hfu hi hit hT.2.2.1 (by omega) h78 ho8 (hbit i (by omega) hit) (by omega) hAL he3 hT hSL hfr
      let N' := up N 152 11 (nI (ob o i opn))
      have oN : ∀ y, y ≠ 152 → N' y = N y := fun y hy => up_n hy
      have oN2 : ∀ y, y ≠ 11 → N' 152 y = N 152 y := fun y hy => up_m hy
      have hN11 : N 152 11 = nI o := by rw [q15.2.1 11 (by omega) (by omega) (by omega) (by omega) (by omega) (by omega) (by omega)]; exact h11
      have hsB : ∀ j, setB tk i j = true ↔ j = i ∨ tk j = true := fun j => by simp only [setB]; split <;> simp_all
      have hsF : ∀ j, setB tk i j = false → j ≠ i ∧ tk j = false := fun j hj => by
        simp only [setB] at hj
        split at hj
        · cases hj
        · exact ⟨by assumption, hj⟩
      have h151 : ∀ j, j ≠ i → ∀ y, y < 4 → N' 151 (4 * j + y) = M 151 (4 * j + y) := fun j hj y hy => by
        rw [oN 151 (by omega), q15.2.2.2 _ (by omega)]
      have hbits := bits ho8 (show i < 3 by omega) opn (hbit i (by omega) hit)
      have hT' : TKL N' n (setB tk i) (x + 1) := by
        refine ⟨fun j hj => ?_, fun j hj => ?_, q19, ?_⟩
        · by_cases hji : j = i
          · subst hji
            rw [oN 151 (by omega), q7]
            have h1 : ¬ nI h < (0 : Int32) := nI_pos (by omega)
            have h2 : setB tk j j = true := by simp [setB]
            rw [h2]
            exact propext ⟨fun z => absurd z h1, fun z => by cases z⟩
          · have h2 : setB tk i j = tk j := by simp [setB, hji]
            have := h151 j hji 0 (by omega)
            rw [Nat.add_zero] at this
            rw [h2, this]
            exact hT.1 j hj
        · rw [q16]
          by_cases hji : j = i
          · subst hji; simp [upd, setB, bI]
          · have h2 : setB tk i j = tk j := by simp [setB, hji]
            rw [h2, show upd (m 42) i 1 j = m 42 j by simp [upd, hji]]
            exact hT.2.1 j hj
        · rw [cn3_set (by omega) hit, hT.2.2.2]
      let od' : Nat → Nat := fun y => if y = x then i else od y
      have hQ' : AQ N' n t' u nS nL nC nO RR (setB tk i) (x + 1) (ob o i opn) fr od' := by
        refine ⟨q3.f11 oN oN2, hT', fun j hj => ?_, ?_, ?_, ⟨q18, hbits.2.2.2.2, fun j hj hjt => ?_⟩, up_s, fun j hj hjt => ?_, fun j hj hjt => ?_, fun y hy => ?_, ?_⟩
        · rcases (hsB j).mp hj with rfl | h
          · exact hi
          · exact htS j h
        · rw [e3_cg (oN 3 (by omega)), e3_cg (q15.1 3 (by omega) (by omega) (by omega) (by omega) (by omega) (by omega) (by omega) (by omega) (by omega))]; exact he3
        · rw [q20.2.2 53 (by omega) (by omega) (by omega) (by omega) (by omega) (by omega) (by omega) (by omega) (by omega) (by omega)]; exact hfr
        · obtain ⟨j1, j2⟩ := hsF j hjt
          have hob := ob_bit ⟨o, ho8⟩ ⟨i, by omega⟩ ⟨j, hj⟩ opn (hbit i (by omega) hit) (fun e => j1 (by have := congrArg Fin.val e; exact this.symm))
          dsimp only at hob
          rw [hob]
          exact hbit j hj j2
        · rcases (hsB j).mp hjt with rfl | h
          · exact ⟨A, q4.cg (oN 149 (by omega)) (oN 150 (by omega)) rfl rfl rfl⟩
          · by_cases hji : j = i
            · subst hji; exact ⟨A, q4.cg (oN 149 (by omega)) (oN 150 (by omega)) rfl rfl rfl⟩
            · obtain ⟨B, hB⟩ := hSL j hj h
              exact ⟨B, (q5 j B hj hji hB).cg (oN 149 (by omega)) (oN 150 (by omega)) rfl rfl rfl⟩
        · by_cases hji : j = i
          · subst hji
            exact ⟨h, a, b, q6, q9, q10, by rw [oN 151 (by omega)]; exact q7, by rw [oN 151 (by omega)]; exact q11, by rw [oN 151 (by omega)]; exact q12, q13, q14⟩
          · have h2 : tk j = true := by
              rcases (hsB j).mp hjt with rfl | h
              · exact absurd rfl hji
              · exact h
            obtain ⟨h', a', b', w1, w2, w3, w4, w5, w6, w7, w8⟩ := hw j hj h2
            have e0 := h151 j hji 0 (by omega)
            rw [Nat.add_zero] at e0
            exact ⟨h', a', b', w1, w2, w3, by rw [e0]; exact w4, by rw [h151 j hji 2 (by omega)]; exact w5, by rw [h151 j hji 3 (by omega)]; exact w6, by rw [(q20.2.1 j hji).1]; exact w7, by rw [(q20.2.1 j hji).2]; exact w8⟩
        · by_cases hyx : y = x
          · subst hyx
            have : od' y = i := by simp [od']
            rw [this]
            refine ⟨by omega, (hsB i).mpr (Or.inl rfl), ?_⟩
            rw [q17, show upd (m 57) y (nI (10 * i + h)) y = nI (10 * i + h) by simp [upd], oN 151 (by omega), q7, show (10 : Int32) = nI 10 from rfl, pk_mul, nI_add]
          · have : od' y = od y := by simp [od', hyx]
            obtain ⟨w1, w2, w3⟩ := hod y (by omega)
            have hne : od y ≠ i := fun e => by rw [e, hit] at w2; cases w2
            rw [this]
            refine ⟨w1, (hsB _).mpr (Or.inr w2), ?_⟩
            have e0 := h151 (od y) hne 0 (by omega)
            rw [Nat.add_zero] at e0
            rw [q17, show upd (m 57) x (nI (10 * i + h)) y = m 57 y by simp [upd, hyx], e0]
            exact w3
        · rw [q20.2.2 0 (by omega) (by omega) (by omega) (by omega) (by omega) (by omega) (by omega) (by omega) (by omega) (by omega)]; exact h00
      obtain ⟨N2, n2', t2, tk2, o2, od2, v1, v2, v3, v4, v5, v6, v7⟩ := ih (x + 1) k k' N' n t' (setB tk i) (ob o i opn) od' (by omega) (by omega) (by omega) hQ' (by omega)
      have hodx : ordN od' (x + 1) = ordN od x + i * 4 ^ x := by
        simp only [ordN]
        rw [ordN_cg (od := od) x (fun y hy => by simp only [od']; rw [if_neg (by omega)])]
        simp [od']
      refine ⟨N2, n2', t2, tk2, o2, od2, ?_, ?_, by omega, by omega, v5, v6.trans (FLq.trans ⟨fun y _ _ _ _ _ _ h7 _ _ => oN y h7, fun y _ _ _ _ _ h6 _ _ => oN2 y h6, fun y _ => by rw [oN 153 (by omega)]⟩ q15.q), v7.trans q20.fa⟩
      · have e1 : f_L_asks_L229 fu k392 (k + 1) (nI (ordN od x)) (nI x) M = f_L_asks_L249 fu M (fun (x20_99 : Int32) => bd (f_L_take fu x20_99 M) (fun M_101 => nm (nI (ordN od x) + (x20_99 <<< ((2 * nI x) &&& 31))) (fun x18_102 => grd (inb ((4 * x20_99) + 1) 12) (nm (up M_101 152 11 ((M_101 152 11) ||| ((M_101 151 ((4 * x20_99) + 1).toNatClampNeg) <<< (x20_99 &&& 31)))) (fun M_104 => nm (nI x + 1) (fun x19_105 => f_L_asks_L229 fu k392 k x18_102 x19_105 M_104)))))) fu (-1) 1048576 0 := by
          simp (disch := omega) only [f_L_asks_L229, hD.1.1, nI_leI, hx, if_false, jn_d]
        rw [e1]
        refine Eq.trans n1 ?_
        rw [show oI (some i) = nI i from rfl, g1, bd_some]
        have e4 : (4 : Int32) * nI i + 1 = nI (4 * i + 1) := by rw [show (4 : Int32) = nI 4 from rfl, pk_mul, nI_1]
        have l1 := lord ⟨i, by omega⟩ ⟨x, by omega⟩
        have l2 := lor_ob ⟨o, ho8⟩ ⟨i, by omega⟩ opn (hbit i (by omega) hit)
        dsimp only at l1 l2
        simp only [nm_d, e4, l1, nI_add, nI_1]
        rw [inb_nI (by omega) (by omega), grd_true, nI_clamp (by omega), q8, hN11, l2, ← hodx]
        exact v1
      · have e2 : f_X11_nextSeat fu m = some (nI i) := n2
        have hx' : ¬ nI nS ≤ nI x := by rw [nI_leI (by omega) (by omega)]; exact hx
        simp only [f_X11_ask_L114, hG.1.1, hT.2.2.1, if_neg hx', e2, bd_some, g2]
        exact v2
/-! what is claimed -/
theorem claim_L (hS : M 146 0 = nI nS) (hS3 : nS ≤ 3) (h : ∀ j, j < nS → M 151 (4 * j + 2) = n 46 j ∧ M 151 (4 * j + 3) = n 47 j) : ∀ d x (y1 y2 : Int32), x + d = nS → ∃ z1 z2 : Int32, (∀ k (k479 : Int32 → Int32 → Option (Int32 × Mem)), d < k → f_L_asks_L404 fu M k479 k y1 y2 (nI x) = k479 z1 z2) ∧ ∀ (n' : Mem) k' (k65 : Int32 → Int32 → Option Int32), n' 46 = n 46 → n' 47 = n 47 → n' 0 22 = nI nS → d < k' → f_X11_claimed_L9 fu n' k65 k' y1 y2 (nI x) = k65 z1 z2 := by
  intro d
  induction d with
  | zero =>
    intro x y1 y2 h1
    obtain rfl : x = nS := by omega
    refine ⟨y1, y2, fun k k479 h2 => ?_, fun n' k' k65 _ _ hS' h3 => ?_⟩
    · obtain ⟨k, rfl⟩ := fu1 h2
      simp (disch := omega) only [f_L_asks_L404, hS, nI_leI, Nat.le_refl, if_true]
    · obtain ⟨k', rfl⟩ := fu1 h3
      simp (disch := omega) only [f_X11_claimed_L9, hS', nI_leI, Nat.le_refl, if_true]
  | succ d ih =>
    intro x y1 y2 h1
    have h5 : ¬ nS ≤ x := by omega
    obtain ⟨w1, w2⟩ := h x (by omega)
    have e2 : (4 : Int32) * nI x + 2 = nI (4 * x + 2) := by rw [show (4 : Int32) = nI 4 from rfl, show (2 : Int32) = nI 2 from rfl, pk_mul, nI_add]
    have e3 : (4 : Int32) * nI x + 3 = nI (4 * x + 3) := by rw [show (4 : Int32) = nI 4 from rfl, show (3 : Int32) = nI 3 from rfl, pk_mul, nI_add]
    obtain ⟨z1, z2, c1, c2⟩ := ih (x + 1) (if n 46 x ≤ y1 then y1 else n 46 x) (if y2 ≤ n 47 x then y2 else n 47 x) (by omega)
    refine ⟨z1, z2, fun k k479 h2 => ?_, fun n' k' k65 g46 g47 hS' h3 => ?_⟩
    · obtain ⟨k, rfl⟩ := fu1 h2
      rw [← c1 k k479 (by omega)]
      simp (disch := omega) only [f_L_asks_L404, hS, nI_leI, h5, if_false, e2, e3, inb_nI, grd_true, nI_clamp, w1, w2, nm_d, nI_1]
      by_cases hz : y2 ≤ n 47 x
      · rw [if_pos hz, if_pos hz]
      · rw [if_neg hz, if_neg hz]
    · obtain ⟨k', rfl⟩ := fu1 h3
      rw [← c2 n' k' k65 g46 g47 hS' (by omega)]
      simp (disch := omega) only [f_X11_claimed_L9, hS', nI_leI, h5, if_false, inb_nI, grd_true, nI_clamp, g46, g47, nm_d, nI_1]
      by_cases hz : y2 ≤ n 47 x
      · rw [if_pos hz, if_pos hz]
      · rw [if_neg hz, if_neg hz]
end AsksL
