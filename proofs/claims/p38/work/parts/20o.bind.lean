/-! ===== a seat is bound: the law and the reference ===== -/
def FLb (i : Nat) (N M : Mem) : Prop := (∀ a, a ≠ 145 → a ≠ 147 → a ≠ 148 → a ≠ 149 → a ≠ 150 → a ≠ 151 → a ≠ 152 → a ≠ 153 → N a = M a) ∧ (∀ j, j ≠ 1 → j ≠ 3 → j ≠ 7 → j ≠ 8 → j ≠ 9 → j ≠ 13 → j ≠ 14 → N 152 j = M 152 j) ∧ (∀ j, 6 ≤ j → N 153 j = M 153 j) ∧ ∀ j, j ≠ 4 * i → j ≠ 4 * i + 1 → N 151 j = M 151 j
def lk148 (fu i : Nat) : Mem → Option Mem := fun (M_8 : Mem) => nm (up M_8 151 (4 * nI i).toNatClampNeg 2) (fun M_9 => bm (f_L_scan fu (nI i) M_9) (fun r_11 M_12 => nm ((if r_11 = 0 then 0 else 1) : Int32) (fun v_14 => nm (up M_12 151 ((4 * nI i) + 1).toNatClampNeg v_14) (fun M_15 => some M_15))))
section BindL
variable {fu t u i j s o c K nS nL nC nO : Nat} {M m N n : Mem} {A : List Row} {RR : Nat → List Row} {kf : Nat → Int32} {most : Int32}
theorem FLb.rfl : FLb i M M := ⟨fun _ _ _ _ _ _ _ _ _ => Eq.refl _, fun _ _ _ _ _ _ _ _ => Eq.refl _, fun _ _ => Eq.refl _, fun _ _ _ => Eq.refl _⟩
theorem FLb.trans {P : Mem} (h : FLb i N P) (h' : FLb i P M) : FLb i N M := ⟨fun a h1 h2 h3 h4 h5 h6 h7 h8 => by rw [h.1 a h1 h2 h3 h4 h5 h6 h7 h8, h'.1 a h1 h2 h3 h4 h5 h6 h7 h8], fun j h1 h2 h3 h4 h5 h6 h7 => by rw [h.2.1 j h1 h2 h3 h4 h5 h6 h7, h'.2.1 j h1 h2 h3 h4 h5 h6 h7], fun j h1 => by rw [h.2.2.1 j h1, h'.2.2.1 j h1], fun j h1 h2 => by rw [h.2.2.2 j h1 h2, h'.2.2.2 j h1 h2]⟩
theorem FLs.fb (h : FLs N M) : FLb i N M := ⟨fun a h1 h2 h3 h4 h5 _ h6 h7 => h.1 a h1 h2 h3 h4 h5 h6 h7, h.2.1, h.2.2, fun j _ _ => by rw [h.1 151 (by omega) (by omega) (by omega) (by omega) (by omega) (by omega) (by omega)]⟩
theorem FLb.up {x : Nat} {v : Int32} (hx : x = 4 * i ∨ x = 4 * i + 1) : FLb i (up M 151 x v) M := ⟨fun a _ _ _ _ _ h _ _ => up_n h, fun j _ _ _ _ _ _ _ => by rw [up_n (by omega)], fun j _ => by rw [up_n (by omega)], fun j h1 h2 => up_m (by omega)⟩
theorem AL.l (h : AL M m t u nS nL nC nO RR) (f : ∀ a, a = 142 ∨ a = 143 ∨ a = 144 ∨ a = 145 ∨ a = 146 ∨ a = 147 ∨ a = 148 ∨ a = 152 ∨ a = 153 → N a = M a) : AL N m t u nS nL nC nO RR :=
  h.of (h.1.1.cg (f 147 (by omega)) (f 148 (by omega)) (f 144 (by omega)) (by rw [f 152 (by omega)]; exact ⟨rfl, rfl, rfl⟩) rfl rfl rfl rfl (fun _ _ _ => rfl) rfl) (h.1.2.1.cg (f 145 (by omega)) (fun _ _ _ => rfl)) h.1.2.2.1 (h.1.2.2.2.cg (by rw [f 152 (by omega)]; exact ⟨rfl, rfl, rfl, rfl, rfl, rfl, rfl⟩) (fun _ _ => rfl)) (h.2.2.2.1.cg (fun j _ => by rw [f 153 (by omega)]) rfl) (f 142 (by omega)) (f 143 (by omega)) (f 146 (by omega)) (fun j _ => by rw [f 153 (by omega)]) (fun _ _ => rfl) (fun _ _ _ => rfl)
theorem AL.a (h : AL M m t u nS nL nC nO RR) {t' : Nat} (g5 : TN N n t' u) (g6 : PL N n) (g7 : KG n) (g8 : QS N n) (g9 : FLa N M) (g10 : FMq n m) : AL N n t' u nS nL nC nO RR :=
  h.of g5 g6 g7 g8 (h.2.2.2.1.cg (fun j _ => by rw [g9.1 153 (by omega) (by omega) (by omega) (by omega)]) (g10.1 18 (by omega) (by omega) (by omega) (by omega) (by omega))) (g9.1 142 (by omega) (by omega) (by omega) (by omega)) (g9.1 143 (by omega) (by omega) (by omega) (by omega)) (g9.1 146 (by omega) (by omega) (by omega) (by omega)) (fun j _ => by rw [g9.1 153 (by omega) (by omega) (by omega) (by omega)]) (fun a _ => g10.1 a (by omega) (by omega) (by omega) (by omega) (by omega)) (fun j _ _ => g10.2 j (by omega) (by omega) (by omega) (by omega) (by omega))
theorem AL.cm (h1 : AL M m t u nS nL nC nO RR) (k10 : QS N n) (k6 : FLc N M) (k7 : FMr n m) : AL N n t u nS nL nC nO RR :=
  h1.of (h1.1.1.cg (k6.1 147 (by omega) (by omega) (by omega)) (k6.1 148 (by omega) (by omega) (by omega)) (k6.1 144 (by omega) (by omega) (by omega)) ⟨k6.2 0 (by omega) (by omega) (by omega) (by omega), k6.2 1 (by omega) (by omega) (by omega) (by omega), k6.2 3 (by omega) (by omega) (by omega) (by omega)⟩ (k7.2 7 (by omega) (by omega) (by omega) (by omega)) (k7.2 8 (by omega) (by omega) (by omega) (by omega)) (k7.2 39 (by omega) (by omega) (by omega) (by omega)) (k7.1 5 (by omega) (by omega) (by omega) (by omega)) (fun a _ _ => k7.1 a (by omega) (by omega) (by omega) (by omega)) (k7.1 10 (by omega) (by omega) (by omega) (by omega))) (h1.1.2.1.cg (k6.1 145 (by omega) (by omega) (by omega)) (fun a _ _ => k7.1 a (by omega) (by omega) (by omega) (by omega))) (h1.1.2.2.1.cg (fun a _ => k7.1 a (by omega) (by omega) (by omega) (by omega))) k10 (h1.2.2.2.1.cg (fun j _ => by rw [k6.1 153 (by omega) (by omega) (by omega)]) (k7.1 18 (by omega) (by omega) (by omega) (by omega))) (k6.1 142 (by omega) (by omega) (by omega)) (k6.1 143 (by omega) (by omega) (by omega)) (k6.1 146 (by omega) (by omega) (by omega)) (fun j _ => by rw [k6.1 153 (by omega) (by omega) (by omega)]) (fun a _ => k7.1 a (by omega) (by omega) (by omega) (by omega)) (fun j _ _ => k7.2 j (by omega) (by omega) (by omega) (by omega))
theorem SL.a (h : SL M m i A) (g9 : FLa N M) (g10 : FMq n m) : SL N n i A := h.cg (g9.1 149 (by omega) (by omega) (by omega) (by omega)) (g9.1 150 (by omega) (by omega) (by omega) (by omega)) (g10.1 43 (by omega) (by omega) (by omega) (by omega) (by omega)) (g10.1 44 (by omega) (by omega) (by omega) (by omega) (by omega)) (g10.1 45 (by omega) (by omega) (by omega) (by omega) (by omega))
theorem SLo.a (g9 : FLa N M) (g10 : FMq n m) : SLo i N n M m := fun _ _ _ _ h => SL.a h g9 g10
theorem bindL27 (hfu : 5000 ≤ fu) (hi : i < nS) (hc4 : c < 4) (hs6 : s < 6) (hK : K ≤ 10) (hKD : KD (kf, K)) : ∀ d first k k' (M m : Mem) (A : List Row) (t : Nat) (b : Bool), K ≤ first + 4 * d → d < k → d < k' → AL M m t u nS nL nC nO RR → SL M m i A → A.length ≤ ct (rsel kf (some c) 0 (min first K) (RR s)) (RR s).length → (∀ x, x < K → M 157 x = kf x) → m 48 = kf → m 0 63 = nI K → m 19 i = nI s → M 151 (4 * i) = nI 1 → M 151 (4 * i + 1) = bI b → first ≤ 40 → t + 120 * d + 120 < 2 ^ 27 →
    ∃ N n A' opn t' h, (t ≤ t' ∧ t' ≤ t + 120 * d + 120) ∧ AL N n t' u nS nL nC nO RR ∧ SL N n i A' ∧ FLb i N M ∧ FMs n m ∧ SLo i N n M m ∧ (h = 1 ∨ h = 2) ∧ f_L_bind_L27 fu (nI K) (nI i) (nI c) most (lk148 fu i) k (nI first) M = some N ∧ f_X11_binds_L44 fu (nI i) (nI c) (nI (s / 2)) most mk158 k' (bI b) (nI first) m = some (nI (h + if opn = true then 10 else 0), n) ∧ N 151 (4 * i) = nI h ∧ N 151 (4 * i + 1) = bI opn := by
  intro d
  have done : ∀ first k k' (M m : Mem) (A : List Row) (t : Nat) (b : Bool), 0 < k → 0 < k' → first ≤ 40 → K ≤ first → AL M m t u nS nL nC nO RR → SL M m i A → m 0 63 = nI K → M 151 (4 * i) = nI 1 → M 151 (4 * i + 1) = bI b → ∃ N n A' opn t' h, (t ≤ t' ∧ t' ≤ t) ∧ AL N n t' u nS nL nC nO RR ∧ SL N n i A' ∧ FLb i N M ∧ FMs n m ∧ SLo i N n M m ∧ (h = 1 ∨ h = 2) ∧ f_L_bind_L27 fu (nI K) (nI i) (nI c) most (lk148 fu i) k (nI first) M = some N ∧ f_X11_binds_L44 fu (nI i) (nI c) (nI (s / 2)) most mk158 k' (bI b) (nI first) m = some (nI (h + if opn = true then 10 else 0), n) ∧ N 151 (4 * i) = nI h ∧ N 151 (4 * i + 1) = bI opn := by
    intro first k k' M m A t b h2 h3 h40 h5 hAL hA h63 hq1 hq2
    obtain ⟨k, rfl⟩ := fu1 h2
    obtain ⟨k', rfl⟩ := fu1 h3
    refine ⟨M, m, A, b, t, 1, ⟨Nat.le_refl _, Nat.le_refl _⟩, hAL, hA, .rfl, .rfl, .rfl, Or.inl rfl, ?_, ?_, hq1, hq2⟩
    · simp (disch := omega) only [f_L_bind_L27, nI_leI, h5, if_true]
    · simp (disch := omega) only [f_X11_binds_L44, h63, nI_leI, ↓reduceIte, h5, mk158]
      cases b <;> rfl
  induction d with
  | zero =>
    intro first k k' M m A t b h1 h2 h3 hAL hA hlen h157 h48 h63 h19 hq1 hq2 h40 ht
    obtain ⟨N, n, A', opn, t', h, ⟨x1, x2⟩, x3⟩ := done first k k' M m A t b h2 h3 h40 (by omega) hAL hA h63 hq1 hq2
    exact ⟨N, n, A', opn, t', h, ⟨x1, by omega⟩, x3⟩
  | succ d ih =>
    intro first k k' M m A t b h1 h2 h3 hAL hA hlen h157 h48 h63 h19 hq1 hq2 h40 ht
    by_cases h5 : K ≤ first
    · obtain ⟨N, n, A', opn, t', h, ⟨x1, x2⟩, x3⟩ := done first k k' M m A t b (by omega) (by omega) h40 h5 hAL hA h63 hq1 hq2
      exact ⟨N, n, A', opn, t', h, ⟨x1, by omega⟩, x3⟩
    obtain ⟨k, rfl⟩ := fu1 h2
    obtain ⟨k', rfl⟩ := fu1 h3
    have hS3 := hAL.2.1.2.1.2
    have hs2 : s / 2 < 3 := by omega
    have e6 : (6 : Int32) + nI i = nI (6 + i) := nI_add 6 i
    have hsi : M 146 (6 + i) = nI s := by rw [hAL.2.1.1.2.1 i hi]; exact h19
    have eD : nI s / 2 = nI (s / 2) := pk_div (d := 2) (by omega) (by omega) (by omega)
    obtain ⟨N1, n1, t1, b1, g1, g2, g3, g4, g5, g6, g7, g8, g9, g10⟩ := request_L (j := s / 2) hfu hs2 hAL.1.1 hAL.1.2.1 hAL.1.2.2.1 hAL.1.2.2.2 (by omega)
    have hAL1 := hAL.a g5 g6 g7 g8 g9 g10
    have hA1 := hA.a g9 g10
    have v63 : n1 0 63 = nI K := by rw [g10.2 63 (by omega) (by omega) (by omega) (by omega) (by omega)]; exact h63
    have v48 : n1 48 = kf := by rw [g10.1 48 (by omega) (by omega) (by omega) (by omega) (by omega)]; exact h48
    have v19 : n1 19 i = nI s := by rw [g10.1 19 (by omega) (by omega) (by omega) (by omega) (by omega)]; exact h19
    have v157 : ∀ x, x < K → N1 157 x = kf x := fun x hx => by rw [g9.1 157 (by omega) (by omega) (by omega) (by omega)]; exact h157 x hx
    have v151 : N1 151 = M 151 := g9.1 151 (by omega) (by omega) (by omega) (by omega)
    have e41 : (4 : Int32) * nI i + 1 = nI (4 * i + 1) := by rw [show (4 : Int32) = nI 4 from rfl, pk_mul, nI_1]
    have e4 : (4 : Int32) * nI i = nI (4 * i) := pk_mul 4 i
    have ef : nI first + 4 = nI (first + 4) := nI_add first 4
    have hmin : (if nI K ≤ nI (first + 4) then nI K else nI (first + 4)) = nI (min (first + 4) K) := by
      by_cases hh : K ≤ first + 4
      · rw [if_pos ((nI_leI (by omega) (by omega)).mpr hh)]; congr 1; omega
      · rw [if_neg (fun z => hh ((nI_leI (by omega) (by omega)).mp z))]; congr 1; omega
    cases b1 with
    | false =>
      refine ⟨up N1 151 (4 * i + 1) 1, n1, A, true, t1, 1, ⟨g3, by omega⟩, hAL1.l (fun a ha => up_n (by omega)), hA1.cg (up_n (by omega)) (up_n (by omega)) rfl rfl rfl, (FLb.up (Or.inr rfl)).trans g9.fs.fb, g10.sf, SLo.trans (SLo.of (up_n (by omega)) (up_n (by omega)) rfl rfl rfl) (SLo.a g9 g10), Or.inl rfl, ?_, ?_, by rw [up_m (by omega), v151]; exact hq1, up_s⟩
      · simp (disch := omega) only [f_L_bind_L27, nI_leI, h5, if_false, e6, inb_nI, grd_true, nI_clamp, hsi, eD, g1, bm_some]
        rw [show bI false = 0 from rfl, if_pos rfl, e41, inb_nI (by omega) (by omega), grd_true, nm_d, nI_clamp (by omega)]
      · simp (disch := omega) only [f_X11_binds_L44, h63, nI_leI, h5, if_false, g2, bm_some]
        rw [show bI false = 0 from rfl, if_pos rfl]
        rfl
    | true =>
      obtain ⟨cap, hc1, hc2⟩ := hAL1.1.2.2.1.2.2.1 (s / 2) hs2
      obtain ⟨r1, r2, r3⟩ := hAL1.2.2.1 s hs6
      have h10 := r1.2.1
      have hadd := rsel_add (kf := kf) (K := K) (c := c) (R := RR s) (a := first) (b := min (first + 4) K) (by omega) (by omega) hKD
      rw [show min first K = first by omega] at hlen
      have hctl := ct_le (P := rsel kf (some c) 0 (min (first + 4) K) (RR s)) (n := (RR s).length)
      obtain ⟨N2, n2, A', cut, k1, k2, k3, k4, k5, k6, k7, k8, k9, k10⟩ := come_L (co := some c) (a := first) (b := min (first + 4) K) (a9 := 157) (l9 := 10) (cap := cap) (A := A) hfu hi hs6 r3 (fun c' hc' => by cases hc'; exact hc4) (by omega) (by omega) (by omega) (by omega) hc1 (by omega) hAL1.2.1.1 hAL1.2.1.2 v19 r1 r2 (fun j z1 z2 => by rw [v157 j (by omega), v48]) (by rw [(hAL1.1.2.1 (s / 2) hs2).2.2.2.1]; exact hc2) hc2 hA1 (by rw [v48]; omega) hAL1.1.2.2.1.2.2.2.2 hAL1.1.2.2.2
      have hAL2 := hAL1.cm k10 k6 k7
      rw [v48] at k9
      let N3 := up N2 151 (4 * i + 1) (bI (b || cut))
      have hAL3 : AL N3 n2 t1 u nS nL nC nO RR := hAL2.l (fun a ha => up_n (by omega))
      have hA3 : SL N3 n2 i A' := k3.cg (up_n (by omega)) (up_n (by omega)) rfl rfl rfl
      have w151 : N2 151 = M 151 := by rw [k6.1 151 (by omega) (by omega) (by omega), v151]
      have w63 : n2 0 63 = nI K := by rw [k7.2 63 (by omega) (by omega) (by omega) (by omega)]; exact v63
      have w48 : n2 48 = kf := by rw [k7.1 48 (by omega) (by omega) (by omega) (by omega)]; exact v48
      have w19 : n2 19 i = nI s := by rw [k7.1 19 (by omega) (by omega) (by omega) (by omega)]; exact v19
      have w157 : ∀ x, x < K → N3 157 x = kf x := fun x hx => by show up N2 151 _ _ 157 x = _; rw [up_n (by omega), k6.1 157 (by omega) (by omega) (by omega)]; exact v157 x hx
      have q1 : N3 151 (4 * i) = nI 1 := by show up N2 151 _ _ 151 (4 * i) = _; rw [up_m (by omega), w151]; exact hq1
      have q2 : N3 151 (4 * i + 1) = bI (b || cut) := up_s
      have F3 : FLb i N3 M := (FLb.up (Or.inr rfl)).trans (k6.fs.fb.trans g9.fs.fb)
      have F3m : FMs n2 m := k7.sf.trans g10.sf
      have F3o : SLo i N3 n2 M m := SLo.trans (SLo.of (up_n (by omega)) (up_n (by omega)) rfl rfl rfl) (k8.trans (SLo.a g9 g10))
      have hor : bI b ||| bI cut = bI (b || cut) := by cases b <;> cases cut <;> decide
      have hvo : (if bI b = 0 then (if bI cut = 0 then (0 : Int32) else 1) else 1) = bI (b || cut) := by cases b <;> cases cut <;> decide
      have n10 : ¬ bI true = 0 := by decide
      have h55 : N3 152 13 = n2 0 55 := by show up N2 151 _ _ 152 13 = _; rw [up_n (by omega)]; exact k10.2.2.2.2.2.2
      have eoc : oI (some c) = nI c := rfl
      rw [eoc] at k1 k2
      have eL : f_L_bind_L27 fu (nI K) (nI i) (nI c) most (lk148 fu i) (k + 1) (nI first) M = if K ≤ first + 4 then f_L_bind_L27 fu (nI K) (nI i) (nI c) most (lk148 fu i) k (nI (first + 4)) N3 else if most ≤ n2 0 55 then lk148 fu i N3 else f_L_bind_L27 fu (nI K) (nI i) (nI c) most (lk148 fu i) k (nI (first + 4)) N3 := by
        simp (disch := omega) only [f_L_bind_L27, nI_leI, h5, if_false, e6, inb_nI, grd_true, nI_clamp, hsi, eD, g1, bm_some, n10, nm_d, ef]
        have hmin' : (if K ≤ first + 4 then nI K else nI (first + 4)) = nI (min (first + 4) K) := by
          by_cases hh : K ≤ first + 4
          · rw [if_pos hh]; congr 1; omega
          · rw [if_neg hh]; congr 1; omega
        rw [hmin', k1, bd_some, e41, inb_nI (by omega) (by omega), grd_true, nI_clamp (by omega), w151, hq2, k5, hor]
        rw [show up N2 151 (4 * i + 1) (bI (b || cut)) = N3 from rfl, h55]
      have eM : f_X11_binds_L44 fu (nI i) (nI c) (nI (s / 2)) most mk158 (k' + 1) (bI b) (nI first) m = if K ≤ first + 4 then f_X11_binds_L44 fu (nI i) (nI c) (nI (s / 2)) most mk158 k' (bI (b || cut)) (nI (first + 4)) n2 else if n2 0 55 < most then f_X11_binds_L44 fu (nI i) (nI c) (nI (s / 2)) most mk158 k' (bI (b || cut)) (nI (first + 4)) n2 else bm (f_X11_scans fu (nI i) n2) (fun r_32 M_33 => (if r_32 = 0 then some ((2 + 0), M_33) else some ((2 + 10), M_33))) := by
        simp (disch := omega) only [f_X11_binds_L44, h63, nI_leI, h5, if_false, g2, bm_some, n10, nm_d, ef, v63]
        have hmin' : (if K ≤ first + 4 then nI K else nI (first + 4)) = nI (min (first + 4) K) := by
          by_cases hh : K ≤ first + 4
          · rw [if_pos hh]; congr 1; omega
          · rw [if_neg hh]; congr 1; omega
        have hle : (nI K ≤ nI (min (first + 4) K)) = (K ≤ first + 4) := by
          rw [nI_leI (by omega) (by omega)]
          exact propext (by omega)
        rw [hmin', k2, bd_some, w63]
        simp only [k4, hvo, hle]
      rw [eL, eM]
      have next := ih (first + 4) k k' N3 n2 A' t1 (b || cut) (by omega) (by omega) (by omega) hAL3 hA3 (by rw [show min (first + 4) K = min (first + 4) K from rfl]; omega) w157 w48 w63 w19 q1 q2
      by_cases hle : K ≤ first + 4
      · rw [if_pos hle, if_pos hle]
        obtain ⟨N, n, A2, opn, t', h, ⟨x1, x2⟩, x3, x4, x5, x6, x7, x8⟩ := next (by omega) (by omega)
        exact ⟨N, n, A2, opn, t', h, ⟨by omega, by omega⟩, x3, x4, x5.trans F3, x6.trans F3m, x7.trans F3o, x8⟩
      · rw [if_neg hle, if_neg hle]
        by_cases hmo : most ≤ n2 0 55
        · rw [if_pos hmo, if_neg (Int32.not_lt.mpr hmo)]
          let N4 := up N3 151 (4 * i) 2
          obtain ⟨N, n, A2, opn, t', y1, y2, ⟨y3, y4⟩, y5, y6, y7, y8, y9⟩ := scan_L (M := N4) (m := n2) hfu (hAL3.l (fun a ha => up_n (by omega))) hi (show t1 + 120 < 2 ^ 27 by omega)
          let N5 := up N 151 (4 * i + 1) (bI opn)
          have z151 : N 151 = N4 151 := y7.1 151 (by omega) (by omega) (by omega) (by omega) (by omega) (by omega) (by omega)
          refine ⟨N5, n, A2, opn, t', 2, ⟨by omega, by omega⟩, y5.l (fun a ha => up_n (by omega)), y6.cg (up_n (by omega)) (up_n (by omega)) rfl rfl rfl, (FLb.up (Or.inr rfl)).trans (y7.fb.trans ((FLb.up (Or.inl rfl)).trans F3)), y8.trans F3m, SLo.trans (SLo.of (up_n (by omega)) (up_n (by omega)) rfl rfl rfl) (y9.trans (SLo.trans (SLo.of (up_n (by omega)) (up_n (by omega)) rfl rfl rfl) F3o)), Or.inr rfl, ?_, ?_, ?_, up_s⟩
          · simp only [lk148, nm_d, e4, nI_clamp (show 4 * i < 2 ^ 31 by omega)]
            rw [show up N3 151 (4 * i) 2 = N4 from rfl, y1, bm_some, nI_1, nI_clamp (by omega)]
            have : (if bI opn = 0 then (0 : Int32) else 1) = bI opn := by cases opn <;> decide
            rw [this]
          · rw [y2, bm_some]
            cases opn
            · rw [if_pos (show bI false = 0 from rfl)]; rfl
            · rw [if_neg n10]; rfl
          · show up N 151 _ _ 151 (4 * i) = _
            rw [up_m (by omega), z151]
            exact up_s
        · rw [if_neg hmo, if_pos (Int32.not_le.mp hmo)]
          obtain ⟨N, n, A2, opn, t', h, ⟨x1, x2⟩, x3, x4, x5, x6, x7, x8⟩ := next (by omega) (by omega)
          exact ⟨N, n, A2, opn, t', h, ⟨by omega, by omega⟩, x3, x4, x5.trans F3, x6.trans F3m, x7.trans F3o, x8⟩
end BindL
