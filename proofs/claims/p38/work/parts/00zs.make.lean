/-! ===== the answer is made: both ===== -/
def AR (N : Mem) (a0 : Nat) (n : Mem) : Prop := ∃ k cols, k ≤ 40 ∧ cols ≤ 3 ∧ N a0 5 = nI k ∧ n 0 68 = nI k ∧ N a0 6 = nI cols ∧ n 0 69 = nI cols ∧ ∀ x c, x < k → c < cols → N (a0 + 1) (3 * x + c) = n 52 (3 * x + c)
section Make
variable {fu a0 nS nL nC nO lim a b c i j x : Nat} {M m N n mm M0 : Mem} {F : Nat → List Row} {V : List Int32} {hh : Bool} {A : Nat → List Row}
/-- where a seat has no rows, nothing is matched -/
theorem empty45 {k122 : Mem → Option Mem} (hfu : 5000 ≤ fu) (h0 : 89 < a0) (ha : a < nnF F nS 0) (h2 : nnF F nS 2 = 0) : ∀ d b nk (M : Mem), b + d = nnF F nS 1 → d < nk → ER M m a0 nS nL nC nO lim F V mm M0 → M (a0 + 2) 0 = nI a → ∃ N, f_X0_make_L45 fu a0 k122 nk (nI b) M = k122 N ∧ ER N m a0 nS nL nC nO lim F V mm M0 := by
  intro d
  induction d with
  | zero =>
    intro b nk M e1 e2 hE p0
    obtain ⟨nk, rfl⟩ := fu1 e2
    have n1 := nn_le hE (j := 1) (by omega)
    have ec := choices_eq (fu := fu) (j := 1) hE (by omega)
    have hle : nnF F nS 1 ≤ b := by omega
    exact ⟨M, by simp (disch := omega) only [f_X0_make_L45, lit, ec, bd_some, nI_leI, hle, ↓reduceIte], hE⟩
  | succ d ih =>
    intro b nk M e1 e2 hE p0
    obtain ⟨nk, rfl⟩ := fu1 e2
    have hS3 := hE.2.1.1.2
    have n1 := nn_le hE (j := 1) (by omega)
    have hb : b < nnF F nS 1 := by omega
    have hE' : ER (up M (a0 + 2) 1 (nI b)) m a0 nS nL nC nO lim F V mm M0 := hE.cg h0 (fun x hx => up_n hx) (fun _ _ => rfl)
    have p0' : up M (a0 + 2) 1 (nI b) (a0 + 2) 0 = nI a := by rw [up_m (by omega)]; exact p0
    have hget : ∀ j, j < nS → j ≤ 1 → (F j)[if j = 0 then a else if j = 1 then b else 0]? = some (chR F a b 0 j) := by
      intro j hj hj1
      have hl : (if j = 0 then a else if j = 1 then b else 0) < (F j).length := by
        have : j = 0 ∨ j = 1 := by omega
        rcases this with rfl | rfl
        · simp only [nnF, hj, ↓reduceIte] at ha ⊢; exact ha
        · simp only [nnF, hj, ↓reduceIte] at hb ⊢; simpa using hb
      simp only [chR]
      rw [List.getElem?_eq_getElem hl]
      rfl
    have el := links2 (fu := fu) (j := 1) (R := chR F a b 0) hfu hE' (by omega) (by omega) (fun i hi hi2 => ⟨(hE'.2.2.2.1 i hi).1, (if i = 0 then a else if i = 1 then b else 0), by
      have : i = 0 ∨ i = 1 := by omega
      rcases this with rfl | rfl
      · exact p0'
      · exact up_s, hget i hi hi2⟩)
    have ec := choices_eq (fu := fu) (j := 1) hE (by omega)
    have hnle : ¬ nnF F nS 1 ≤ b := by omega
    have ec2 := choices_eq (fu := fu) (j := 2) hE' (by omega)
    rw [h2] at ec2
    obtain ⟨f, hf⟩ := fu1 (show 0 < fu by omega)
    have e77 : ∀ kk, f_X0_make_L77 fu a0 kk fu (nI 0) (up M (a0 + 2) 1 (nI b)) = kk (up M (a0 + 2) 1 (nI b)) := fun kk => by
      have : ∀ g, f_X0_make_L77 fu a0 kk (g + 1) (nI 0) (up M (a0 + 2) 1 (nI b)) = kk (up M (a0 + 2) 1 (nI b)) := fun g => by
        simp (disch := omega) only [f_X0_make_L77, lit, ec2, bd_some, nI_leI, Nat.le_refl, ↓reduceIte]
      have h3 := this f
      rw [← hf] at h3
      exact h3
    have eC : f_X0_make_L45 fu a0 k122 (nk + 1) (nI b) M = f_X0_make_L45 fu a0 k122 nk (nI (b + 1)) (up M (a0 + 2) 1 (nI b)) := by
      rw [f_X0_make_L45]
      simp (disch := omega) only [lit, ec, bd_some, nI_leI, hnle, ↓reduceIte, nm_d, jn_d, el, e77, nI_add, ite_self]
    obtain ⟨N, y1, y2⟩ := ih (b + 1) nk _ (by omega) (by omega) hE' p0'
    exact ⟨N, by rw [eC, y1], y2⟩
theorem empty26 {k128 : Mem → Option Mem} (hfu : 5000 ≤ fu) (h0 : 89 < a0) (h12 : nnF F nS 1 = 0 ∨ nnF F nS 2 = 0) : ∀ d a nk (M : Mem), a + d = nnF F nS 0 → d < nk → ER M m a0 nS nL nC nO lim F V mm M0 → ∃ N, f_X0_make_L26 fu a0 k128 nk (nI a) M = k128 N ∧ ER N m a0 nS nL nC nO lim F V mm M0 := by
  intro d
  induction d with
  | zero =>
    intro a nk M e1 e2 hE
    obtain ⟨nk, rfl⟩ := fu1 e2
    have n0 := nn_le hE (j := 0) (by omega)
    have ec := choices_eq (fu := fu) (j := 0) hE (by omega)
    have hle : nnF F nS 0 ≤ a := by omega
    exact ⟨M, by simp (disch := omega) only [f_X0_make_L26, lit, ec, bd_some, nI_leI, hle, ↓reduceIte], hE⟩
  | succ d ih =>
    intro a nk M e1 e2 hE
    obtain ⟨nk, rfl⟩ := fu1 e2
    have n0 := nn_le hE (j := 0) (by omega)
    have n1 := nn_le hE (j := 1) (by omega)
    have ha : a < nnF F nS 0 := by omega
    have hE' : ER (up M (a0 + 2) 0 (nI a)) m a0 nS nL nC nO lim F V mm M0 := hE.cg h0 (fun x hx => up_n hx) (fun _ _ => rfl)
    have ec := choices_eq (fu := fu) (j := 0) hE (by omega)
    have hnle : ¬ nnF F nS 0 ≤ a := by omega
    have eC : f_X0_make_L26 fu a0 k128 (nk + 1) (nI a) M = f_X0_make_L45 fu a0 (fun M_15 => f_X0_make_L26 fu a0 k128 nk (nI (a + 1)) M_15) fu (nI 0) (up M (a0 + 2) 0 (nI a)) := by
      rw [f_X0_make_L26]
      simp (disch := omega) only [lit, ec, bd_some, nI_leI, hnle, ↓reduceIte, nm_d, jn_d, nI_add]
    obtain ⟨P, y1, y2⟩ : ∃ P, f_X0_make_L45 fu a0 (fun M_15 => f_X0_make_L26 fu a0 k128 nk (nI (a + 1)) M_15) fu (nI 0) (up M (a0 + 2) 0 (nI a)) = f_X0_make_L26 fu a0 k128 nk (nI (a + 1)) P ∧ ER P m a0 nS nL nC nO lim F V mm M0 := by
      rcases h12 with h1 | h2
      · refine ⟨up M (a0 + 2) 0 (nI a), ?_, hE'⟩
        have ec1 := choices_eq (fu := fu) (j := 1) hE' (by omega)
        rw [h1] at ec1
        obtain ⟨f, hf⟩ := fu1 (show 0 < fu by omega)
        have : ∀ kk g, f_X0_make_L45 fu a0 kk (g + 1) (nI 0) (up M (a0 + 2) 0 (nI a)) = kk (up M (a0 + 2) 0 (nI a)) := fun kk g => by
          simp (disch := omega) only [f_X0_make_L45, lit, ec1, bd_some, nI_leI, Nat.le_refl, ↓reduceIte]
        have h3 := this (fun M_15 => f_X0_make_L26 fu a0 k128 nk (nI (a + 1)) M_15) f
        rw [← hf] at h3
        exact h3
      · exact empty45 hfu h0 ha h2 (nnF F nS 1) 0 fu _ (by omega) (by omega) hE' up_s
    obtain ⟨N, z1, z2⟩ := ih (a + 1) nk P (by omega) (by omega) y2
    exact ⟨N, by rw [eC, y1, z1], z2⟩
def kMk (a0 : Nat) : Mem → Option Mem := fun M_6 => nm (up M_6 a0 5 (if (M_6 80 13) < (M_6 a0 5) then (M_6 80 13) else (M_6 a0 5))) (fun M_7 => some M_7)
def kMm (fu : Nat) : Mem → Option Mem := fun M_10 => (if (M_10 0 38) = 0 then some M_10 else bd (f_X11_makesGroups fu M_10) (fun M_13 => some M_13))
/-- the end of both -/
theorem makeEnd (hfu : 5000 ≤ fu) (h0 : 89 < a0) (hV : V.length ≤ 12) (hE : ER M m a0 nS nL nC nO lim F V mm M0) (h6 : M a0 6 = nI (if m 0 38 = 0 then nO else 3)) (h69 : m 0 69 = nI (if m 0 38 = 0 then nO else 3)) : ∃ N n, kMk a0 M = some N ∧ kMm fu m = some n ∧ AR N a0 n ∧ (∀ x, x ≠ a0 → N x = M x) ∧ (∀ j, j ≠ 5 → N a0 j = M a0 j) ∧ (∀ x, x ≠ 0 → x ≠ 52 → n x = m x) ∧ ∀ j, j ≠ 68 → n 0 j = m 0 j := by
  obtain ⟨h1, h2, ⟨h3, h4, h5, h5'⟩, _, h7⟩ := (id hE)
  have h13 : M 80 13 = nI lim := by rw [h1.1.2.2.2.2.1]; exact h3
  have hO := h2.2.2.2.1.2
  by_cases h38 : m 0 38 = 0
  · rw [if_pos h38] at h7 h6 h69
    obtain ⟨k, k1, k2, k3, k4⟩ := h7
    have hnl : ¬ nI lim < nI k := by rw [nI_ltI (by omega) (by omega)]; omega
    refine ⟨up M a0 5 (nI k), m, ?_, ?_, ⟨k, nO, by omega, hO, up_s, k3, by rw [up_m (by omega)]; exact h6, h69, fun x c hx hc => by rw [up_n (by omega)]; exact k4 x c hx hc⟩, fun x hx => up_n hx, fun j hj => up_m hj, fun _ _ _ => rfl, fun _ _ => rfl⟩
    · simp only [kMk, nm_d, h13, k2, hnl, ↓reduceIte]
    · simp only [kMm, h38, ↓reduceIte]
  · rw [if_neg h38] at h7 h6 h69
    obtain ⟨Gc, Gm, c1, c2, c3, c4, c5, c6⟩ := h7
    have hlen : Gc.length = Gm.length := by rw [← cpt_len, ← cpt_len]; exact c3 _
    have hl12 := pig Gm V c5 (fun e he => (c6 e he).2)
    obtain ⟨n, y1, y2, y3, y4, y5⟩ := makesG_ok (fu := fu) hfu c4 c3 c5 (by omega) (fun e he => (c6 e he).1) h4 c2 h3
    have hm : (if nI lim < nI Gc.length then nI lim else nI Gc.length) = nI (min Gm.length lim) := by
      have e : (nI lim < nI Gc.length) = (lim < Gc.length) := propext (nI_ltI (by omega) (by omega))
      simp only [e]
      split
      · congr 1; omega
      · congr 1; omega
    refine ⟨up M a0 5 (nI (min Gm.length lim)), n, ?_, ?_, ⟨min Gm.length lim, 3, by omega, by omega, up_s, y2, by rw [up_m (by omega)]; exact h6, by rw [y5 69 (by omega)]; exact h69, fun x c hx hc => ?_⟩, fun x hx => up_n hx, fun j hj => up_m hj, y4, y5⟩
    · simp only [kMk, nm_d, h13, c1.1, hm]
    · simp only [kMm, h38, ↓reduceIte, y1, bd_some]
    · obtain ⟨e, he⟩ := gl_ex (L := Gc) (i := x) (by omega)
      obtain ⟨w1, w2, w3⟩ := y3 x e hx he
      obtain ⟨v1, v2, v3⟩ := c1.2 x e he
      rw [up_n (by omega)]
      have : c = 0 ∨ c = 1 ∨ c = 2 := by omega
      rcases this with rfl | rfl | rfl
      · exact v1.trans w1.symm
      · rw [w2, v2]
      · rw [w3, v3]
theorem make2 (hfu : 5000 ≤ fu) (h0 : 89 < a0) (hD : DR M m) (hG : DG m nS nL nC nO) (hS0 : 0 < nS) (hO : 0 < nO) (hX : ∀ i, i < nS → RX m hh i (A i)) (hok : ∀ i, i < nS → okR (A i)) (hR : ∀ j, j < nS → RC M (a0 + 5 + 1 + 3 * j) (FF m nC A j)) : ∃ N n, f_X0_make fu a0 M = some N ∧ f_X11_makes fu (bI hh) m = some n ∧ AR N a0 n ∧ (∀ x, x ≠ a0 → x ≠ a0 + 1 → x ≠ a0 + 2 → N x = M x) ∧ (∀ j, j ≠ 5 → j ≠ 6 → N a0 j = M a0 j) ∧ (∀ x, x ≠ 0 → (x < 49 ∨ 55 < x) → n x = m x) ∧ ∀ j, j ≠ 68 → j ≠ 69 → j ≠ 71 → n 0 j = m 0 j := by
  have hS3 := hG.1.2
  obtain ⟨lim, l1, l2, l3⟩ := hG.2.2.2.2.1
  -- the rows
  obtain ⟨m1, r1, r2, r3⟩ := rowsAllL (fu := fu) (hh := hh) (A := A) (k := fun (x2_2 : Int32) (M_3 : Mem) => nm (up M_3 0 68 0) (fun M_4 => nm (up M_4 0 71 0) (fun M_5 => nm ((if (M_5 0 38) = 0 then (M_5 0 34) else 3) : Int32) (fun v_7 => nm (up M_5 0 69 v_7) (fun M_8 => f_X11_makes_L126 fu (kMm fu) fu x2_2 M_8))))) hfu m hok nS 0 fu m (by omega) (by omega) hG .rfl hX (fun i hi => by omega)
  generalize hfl : al (fun i => decide (0 < (FF m nC A i).length)) nS = flag at r1
  have hO3 := hG.2.2.2.1
  -- the start of both
  generalize hM1 : up (up M a0 5 0) a0 6 (nI (if m 0 38 = 0 then nO else 3)) = M1
  generalize hm2 : up (up (up m1 0 68 0) 0 71 0) 0 69 (nI (if m 0 38 = 0 then nO else 3)) = m2
  have fM1 : ∀ x, x ≠ a0 → M1 x = M x := fun x hx => by rw [← hM1, up_n hx, up_n hx]
  have fM1a : ∀ j, j ≠ 5 → j ≠ 6 → M1 a0 j = M a0 j := fun j h5 h6 => by rw [← hM1, up_m h6, up_m h5]
  have f2 : ∀ x, x ≠ 0 → m2 x = m1 x := fun x hx => by rw [← hm2, up_n hx, up_n hx, up_n hx]
  have f20 : ∀ j, j ≠ 68 → j ≠ 69 → j ≠ 71 → m2 0 j = m1 0 j := fun j h1 h2 h3 => by rw [← hm2, up_m h2, up_m h3, up_m h1]
  have m10 : m1 0 = m 0 := r3 0 (by omega) (by omega) (by omega)
  have fD : DS m2 m := ⟨fun x z1 z2 => by rw [f2 x (by omega), r3 x (by omega) (by omega) (by omega)], fun j z1 z2 => by rw [f20 j (by omega) (by omega) (by omega), m10]⟩
  have h38' : m2 0 38 = m 0 38 := fD.2 38 (by omega) (by omega)
  have eC : f_X0_make fu a0 M = f_X0_make_L26 fu a0 (kMk a0) fu (nI 0) M1 := by
    have e80 : up M a0 5 0 80 = M 80 := up_n (by omega)
    have ev : (if (M 80 14) = 0 then (M 80 12) else 3 : Int32) = nI (if m 0 38 = 0 then nO else 3) := by
      rw [hD.1.2.2.2.2.2, hD.1.2.2.2.1, hO3.1]
      by_cases h : m 0 38 = 0
      · rw [if_pos h, if_pos h]
      · rw [if_neg h, if_neg h]; rfl
    unfold f_X0_make
    refine nm_to (w := up M a0 5 0) rfl ?_
    refine nm_to (w := nI (if m 0 38 = 0 then nO else 3)) (by rw [e80]; exact ev) ?_
    refine nm_to (w := M1) hM1 ?_
    rfl
  have eM : f_X11_makes fu (bI hh) m = f_X11_makes_L126 fu (kMm fu) fu (bI flag) m2 := by
    have e1 : f_X11_makes fu (bI hh) m = f_X11_makes_L4 fu (bI hh) (fun (x2_2 : Int32) (M_3 : Mem) => nm (up M_3 0 68 0) (fun M_4 => nm (up M_4 0 71 0) (fun M_5 => nm ((if (M_5 0 38) = 0 then (M_5 0 34) else 3) : Int32) (fun v_7 => nm (up M_5 0 69 v_7) (fun M_8 => f_X11_makes_L126 fu (kMm fu) fu x2_2 M_8))))) fu (bI (al (fun i => decide (0 < (FF m nC A i).length)) 0)) (nI 0) m := rfl
    rw [e1, r1]
    refine nm_to (w := up m1 0 68 0) rfl ?_
    refine nm_to (w := up (up m1 0 68 0) 0 71 0) rfl ?_
    have ev : (if (up (up m1 0 68 0) 0 71 0 0 38) = 0 then (up (up m1 0 68 0) 0 71 0 0 34) else 3 : Int32) = nI (if m 0 38 = 0 then nO else 3) := by
      rw [up_m (by omega), up_m (by omega), up_m (by omega), up_m (by omega), m10, hO3.1]
      by_cases h : m 0 38 = 0
      · rw [if_pos h, if_pos h]
      · rw [if_neg h, if_neg h]; rfl
    refine nm_to ev ?_
    refine nm_to hm2 ?_
    rfl
  have hFok : ∀ j, j < nS → okR (FF m nC A j) := fun j hj r hr => hok j hj r (List.mem_filter.mp hr).1
  obtain ⟨sa, ca, q1, q2, q3, q4, q5⟩ := ov_get hG (o := 0) hO
  have hER : ER M1 m2 a0 nS nL nC nO lim (FF m nC A) ((FF m nC A sa).map (fun r => cel r ca)) m2 M1 := by
    refine ⟨hD.cg (fun x _ _ => fM1 x (by omega)) fD, hG.cg fD, ⟨by rw [fD.2 37 (by omega) (by omega)]; exact l3, l2, ⟨fun _ _ _ _ => rfl, fun _ _ => rfl, fun _ _ _ _ _ _ _ => rfl, fun _ _ _ => rfl⟩, .rfl⟩, fun j hj => ⟨(hR j hj).cg (by rw [fM1 _ (by omega)]) (fM1 _ (by omega)) (fM1 _ (by omega)), (r2 j hj).1.cg (by rw [f2 49 (by omega)]) (fun x _ => by rw [f2 50 (by omega)]), hFok j hj⟩, ?_⟩
    by_cases h38 : m2 0 38 = 0
    · rw [if_pos h38]
      refine ⟨0, by omega, ?_, ?_, fun x o hx => by omega⟩
      · rw [← hM1, up_m (by omega), up_s]; rfl
      · rw [← hm2, up_m (by omega), up_m (by omega), up_s]; rfl
    · rw [if_neg h38]
      refine ⟨[], [], ⟨?_, fun x e he => by simp at he⟩, ⟨?_, fun x e he => by simp at he⟩, fun _ => rfl, fun i j e e' he => by simp at he, fun i j e e' he => by simp at he, fun e he => by simp at he⟩
      · rw [← hM1, up_m (by omega), up_s]; rfl
      · rw [← hm2, up_m (by omega), up_s]; rfl
  have hV : ((FF m nC A sa).map (fun r => cel r ca)).length ≤ 12 := by rw [List.length_map]; exact (hR sa q3).2.1
  have hVm : ∀ R : Nat → Row, (∀ j, j < nS → R j ∈ FF m nC A j) → ov m2 R 0 ∈ (FF m nC A sa).map (fun r => cel r ca) := fun R hRm => by
    rw [ov_ds fD, q5]
    exact List.mem_map_of_mem (hRm sa q3)
  have n0 := nn_le hER (j := 0) (by omega)
  have n1 := nn_le hER (j := 1) (by omega)
  have n2 := nn_le hER (j := 2) (by omega)
  have goal : ∃ N n, f_X0_make_L26 fu a0 (kMk a0) fu (nI 0) M1 = some N ∧ f_X11_makes_L126 fu (kMm fu) fu (bI flag) m2 = some n ∧ AR N a0 n ∧ (∀ x, x ≠ a0 → x ≠ a0 + 1 → x ≠ a0 + 2 → N x = M1 x) ∧ (∀ j, j ≠ 5 → N a0 j = M1 a0 j) ∧ (∀ x, x ≠ 0 → (x < 51 ∨ 55 < x) → n x = m2 x) ∧ ∀ j, j ≠ 68 → j ≠ 71 → n 0 j = m2 0 j := by
    have fin : ∀ N n, ER N n a0 nS nL nC nO lim (FF m nC A) ((FF m nC A sa).map (fun r => cel r ca)) m2 M1 → ∃ N' n', kMk a0 N = some N' ∧ kMm fu n = some n' ∧ AR N' a0 n' ∧ (∀ x, x ≠ a0 → x ≠ a0 + 1 → x ≠ a0 + 2 → N' x = M1 x) ∧ (∀ j, j ≠ 5 → N' a0 j = M1 a0 j) ∧ (∀ x, x ≠ 0 → (x < 51 ∨ 55 < x) → n' x = m2 x) ∧ ∀ j, j ≠ 68 → j ≠ 71 → n' 0 j = m2 0 j := by
      intro N n hE
      have hF := hE.2.2.1.2.2.1
      have h38n : n 0 38 = m 0 38 := by rw [hF.2.2.2 38 (by omega) (by omega), h38']
      obtain ⟨N', n', y1, y2, y3, y4, y5, y6, y7⟩ := makeEnd (fu := fu) hfu h0 hV hE (by rw [hF.2.1 6 (by omega), ← hM1, up_s, h38n]) (by rw [hF.2.2.2 69 (by omega) (by omega), ← hm2, up_s, h38n])
      exact ⟨N', n', y1, y2, y3, fun x z1 z2 z3 => by rw [y4 x z1, hF.1 x z1 z2 z3], fun j hj => by rw [y5 j hj, hF.2.1 j hj], fun x z1 z2 => by rw [y6 x z1 (by omega), hF.2.2.1 x z1 (by omega) (by omega) (by omega) (by omega) (by omega)], fun j z1 z2 => by rw [y7 j z1, hF.2.2.2 j z1 z2]⟩
    have nnr : ∀ j, j < nS → nnF (FF m nC A) nS j = (FF m nC A j).length := fun j hj => by simp only [nnF, hj, ↓reduceIte]
    cases flag with
    | true =>
      have hpos : ∀ j, j < 3 → 0 < nnF (FF m nC A) nS j := fun j hj => by
        by_cases hjs : j < nS
        · rw [nnr j hjs]
          have := al_lt hfl j hjs
          simpa using this
        · simp only [nnF, hjs, ↓reduceIte]; omega
      have h00 := hpos 0 (by omega)
      have h01 := hpos 1 (by omega)
      have h02 := hpos 2 (by omega)
      refine outL (fu := fu) (k128 := kMk a0) (k170 := kMm fu) (Q := fun X Y => ∃ N n, X = some N ∧ Y = some n ∧ AR N a0 n ∧ (∀ x, x ≠ a0 → x ≠ a0 + 1 → x ≠ a0 + 2 → N x = M1 x) ∧ (∀ j, j ≠ 5 → N a0 j = M1 a0 j) ∧ (∀ x, x ≠ 0 → (x < 51 ∨ 55 < x) → n x = m2 x) ∧ ∀ j, j ≠ 68 → j ≠ 71 → n 0 j = m2 0 j) hfu h0 hS0 hO hV hVm h01 n1 h02 n2 (fun N n hE => fin N n hE) (nnF (FF m nC A) nS 0 - 1) 0 fu fu M1 m2 (by omega) (by omega) (by simp only [meas]; omega) hER ⟨fun h => ?_, fun h => ?_, fun h => ?_⟩
      · rw [f2 51 (by omega)]; exact (r2 0 h).2
      · rw [f2 51 (by omega)]; exact (r2 1 h).2
      · rw [f2 51 (by omega)]; exact (r2 2 h).2
    | false =>
      have hz : nnF (FF m nC A) nS 0 = 0 ∨ nnF (FF m nC A) nS 1 = 0 ∨ nnF (FF m nC A) nS 2 = 0 := by
        by_cases hex : ∃ j, j < nS ∧ (FF m nC A j).length = 0
        · obtain ⟨j, hj, hl⟩ := hex
          have := nnr j hj
          have hj3 : j = 0 ∨ j = 1 ∨ j = 2 := by omega
          rcases hj3 with rfl | rfl | rfl
          · exact Or.inl (by omega)
          · exact Or.inr (Or.inl (by omega))
          · exact Or.inr (Or.inr (by omega))
        · exfalso
          have : al (fun i => decide (0 < (FF m nC A i).length)) nS = true := al_of (fun j hj => by
            have : ¬ (FF m nC A j).length = 0 := fun h => hex ⟨j, hj, h⟩
            exact decide_eq_true (by omega))
          rw [hfl] at this
          cases this
      obtain ⟨P, y1, y2⟩ : ∃ P, f_X0_make_L26 fu a0 (kMk a0) fu (nI 0) M1 = kMk a0 P ∧ ER P m2 a0 nS nL nC nO lim (FF m nC A) ((FF m nC A sa).map (fun r => cel r ca)) m2 M1 := by
        rcases hz with h | h
        · refine ⟨M1, ?_, hER⟩
          have ec := choices_eq (fu := fu) (j := 0) hER (by omega)
          rw [h] at ec
          obtain ⟨f, hf⟩ := fu1 (show 0 < fu by omega)
          have : ∀ g, f_X0_make_L26 fu a0 (kMk a0) (g + 1) (nI 0) M1 = kMk a0 M1 := fun g => by
            simp (disch := omega) only [f_X0_make_L26, lit, ec, bd_some, nI_leI, Nat.le_refl, ↓reduceIte]
          have h3 := this f
          rw [← hf] at h3
          exact h3
        · exact empty26 hfu h0 h (nnF (FF m nC A) nS 0) 0 fu M1 (by omega) (by omega) hER
      obtain ⟨f, hf⟩ := fu1 (show 0 < fu by omega)
      have e126 : f_X11_makes_L126 fu (kMm fu) fu (bI false) m2 = kMm fu m2 := by
        have : ∀ g, f_X11_makes_L126 fu (kMm fu) (g + 1) (bI false) m2 = kMm fu m2 := fun g => by
          have e : bI false = 0 := rfl
          rw [e]
          simp only [f_X11_makes_L126, ↓reduceIte]
        have h3 := this f
        rw [← hf] at h3
        exact h3
      rw [y1, e126]
      exact fin P m2 y2
  obtain ⟨N, n, g1, g2, g3, g4, g5, g6, g7⟩ := goal
  rw [eC, eM]
  exact ⟨N, n, g1, g2, g3, fun x z1 z2 z3 => by rw [g4 x z1 z2 z3, fM1 x z1], fun j z1 z2 => by rw [g5 j z1, fM1a j z1 z2], fun x z1 z2 => by rw [g6 x z1 (by omega), f2 x z1, r3 x (by omega) (by omega) (by omega)], fun j z1 z2 z3 => by rw [g7 j z1 z3, f20 j z1 z2 z3, m10]⟩
end Make
