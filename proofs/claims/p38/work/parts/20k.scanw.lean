/-! ===== a scan, whole ===== -/
def ZL (M m : Mem) : Prop := ∀ s, s < 6 → M 153 s = m 18 s ∧ ∃ z, z ≤ 12 ∧ m 18 s = nI z
def FL (M m : Mem) : Prop := ∀ s, s < 6 → M 153 (8 + s) = m 17 s ∧ ∃ k, k < 8 ∧ m 17 s = nI k
/-- while a question is asked: the law and the reference -/
def AL (M m : Mem) (t u nS nL nC nO : Nat) (RR : Nat → List Row) : Prop := (TN M m t u ∧ PL M m ∧ KG m ∧ QS M m) ∧ (DL M m nS nL nC nO ∧ DG m nS nL nC nO) ∧ RLL M m RR ∧ ZL M m ∧ FL M m
def FLs (N M : Mem) : Prop := (∀ a, a ≠ 145 → a ≠ 147 → a ≠ 148 → a ≠ 149 → a ≠ 150 → a ≠ 152 → a ≠ 153 → N a = M a) ∧ (∀ j, j ≠ 1 → j ≠ 3 → j ≠ 7 → j ≠ 8 → j ≠ 9 → j ≠ 13 → j ≠ 14 → N 152 j = M 152 j) ∧ ∀ j, 6 ≤ j → N 153 j = M 153 j
section ScanW
variable {fu t u s i j e nS nL nC nO : Nat} {M m N n : Mem} {R A : List Row} {RR : Nat → List Row} {L : List Ent} {sr kt : Nat → Nat}
theorem FLs.rfl : FLs M M := ⟨fun _ _ _ _ _ _ _ _ => Eq.refl _, fun _ _ _ _ _ _ _ _ => Eq.refl _, fun _ _ => Eq.refl _⟩
theorem FLs.trans {P : Mem} (h : FLs N P) (h' : FLs P M) : FLs N M := ⟨fun a h1 h2 h3 h4 h5 h6 h7 => by rw [h.1 a h1 h2 h3 h4 h5 h6 h7, h'.1 a h1 h2 h3 h4 h5 h6 h7], fun j h1 h2 h3 h4 h5 h6 h7 => by rw [h.2.1 j h1 h2 h3 h4 h5 h6 h7, h'.2.1 j h1 h2 h3 h4 h5 h6 h7], fun j h1 => by rw [h.2.2 j h1, h'.2.2 j h1]⟩
theorem FLa.fs (h : FLa N M) : FLs N M := ⟨fun a h1 h2 h3 _ _ h6 _ => h.1 a h1 h2 h3 h6, fun j h1 h2 h3 h4 _ h6 _ => h.2 j h1 h2 h3 h4 h6, fun j _ => by rw [h.1 153 (by omega) (by omega) (by omega) (by omega)]⟩
theorem FLc.fs (h : FLc N M) : FLs N M := ⟨fun a _ _ _ h4 h5 h6 _ => h.1 a h4 h5 h6, fun j _ _ h3 _ h5 h6 h7 => h.2 j h3 h5 h6 h7, fun j _ => by rw [h.1 153 (by omega) (by omega) (by omega)]⟩
theorem KG.cg (h : KG m) (f : ∀ a, a = 6 ∨ a = 7 ∨ a = 9 ∨ a = 15 ∨ a = 16 → n a = m a) : KG n := by
  obtain ⟨c1, c2, c3, c4, c5⟩ := h
  refine ⟨?_, ?_, ?_, ?_, ?_⟩
  · rw [f 6 (by omega)]; exact c1
  · rw [f 7 (by omega)]; exact c2
  · rw [f 9 (by omega)]; exact c3
  · rw [f 15 (by omega)]; exact c4
  · rw [f 16 (by omega)]; exact c5
theorem AL.of {t' u' : Nat} (h : AL M m t u nS nL nC nO RR) (hT : TN N n t' u') (hP : PL N n) (hG : KG n) (hQ : QS N n) (hZ : ZL N n) (f1 : N 142 = M 142) (f2 : N 143 = M 143) (f3 : N 146 = M 146) (f4 : ∀ j, 6 ≤ j → N 153 j = M 153 j) (g1 : ∀ a, (1 ≤ a ∧ a ≤ 3) ∨ a = 17 ∨ (19 ≤ a ∧ a ≤ 29) → n a = m a) (g2 : ∀ j, 22 ≤ j → j ≤ 38 → n 0 j = m 0 j) : AL N n t' u' nS nL nC nO RR := by
  obtain ⟨_, ⟨hD, hDG⟩, hR, _, hF⟩ := h
  have hDS : DS n m := ⟨fun a z1 z2 => g1 a (by omega), fun j z1 z2 => g2 j z1 z2⟩
  exact ⟨⟨hT, hP, hG, hQ⟩, ⟨hD.cg f3 (fun a z1 z2 => g1 a (by omega)) (g2 37 (by omega) (by omega)) (g2 38 (by omega) (by omega)), hDG.cg hDS⟩, hR.cg f1 f2 (g1 1 (by omega)) (g1 2 (by omega)) (g1 3 (by omega)), hZ, fun s hs => by rw [f4 (8 + s) (by omega), g1 17 (by omega)]; exact hF s hs⟩
theorem ZL.cg (h : ZL M m) (h1 : ∀ j, j < 6 → N 153 j = M 153 j) (h2 : n 18 = m 18) : ZL N n := fun s hs => by rw [h1 s hs, h2]; exact h s hs
theorem TN.snoc {E : Ent} (hN1 : N 152 1 = nI t) (hn8 : n 0 8 = nI t) (hn7 : n 0 7 = nI u) (hE : EM n (rot L ++ [E])) (hg : EG t u L) (hE1 : E1 t u E) (hC : LCk N u sr kt (rot L ++ [E])) (hH : HIST N t u sr kt) (h5 : ∀ s, s < 6 → n 5 s = nI (lw sr s u)) (hng : ∀ E ∈ L, gone (nI t) (n 10) E = false) (hgE : gone (nI t) (n 10) E = false) : TN N n t u :=
  ⟨⟨hN1, hn8, hn7⟩, _, sr, kt, hE, hg.snoc hE1, hC, hH, h5, fun E' hE' => by
    rw [List.mem_append] at hE'
    rcases hE' with h | h
    · exact hng E' (rot_mem h)
    · simp at h; subst h; exact hgE⟩
theorem scan_L (hfu : 5000 ≤ fu) (h : AL M m t u nS nL nC nO RR) (hi : i < nS) (ht : t + 120 < 2 ^ 27) :
    ∃ N n A opn t', f_L_scan fu (nI i) M = some (bI opn, N) ∧ f_X11_scans fu (nI i) m = some (bI opn, n) ∧ (t ≤ t' ∧ t' ≤ t + 120) ∧ AL N n t' u nS nL nC nO RR ∧ SL N n i A ∧ FLs N M ∧ FMs n m ∧ SLo i N n M m := by
  obtain ⟨s, hs6, hs⟩ := h.2.1.2.src hi
  have hS3 := h.2.1.2.1.2
  have i3 : i < 3 := by omega
  have hst : f_X10_storeOf (nI s) = nI (s / 2) := sto hs6
  have hs2 : s / 2 < 3 := by omega
  have e6 : (6 : Int32) + nI i = nI (6 + i) := nI_add 6 i
  have hsi : M 146 (6 + i) = nI s := by rw [h.2.1.1.2.1 i hi]; exact hs
  let M0 := up M 150 i 0
  let m0 := up m 43 i 0
  have o0 : ∀ a, a ≠ 150 → M0 a = M a := fun a ha => up_n ha
  have p0 : ∀ a, a ≠ 43 → m0 a = m a := fun a ha => up_n ha
  have T0 : TN M0 m0 t u := h.1.1.cg (o0 147 (by omega)) (o0 148 (by omega)) (o0 144 (by omega)) (by rw [o0 152 (by omega)]; exact ⟨rfl, rfl, rfl⟩) (by rw [p0 0 (by omega)]) (by rw [p0 0 (by omega)]) (by rw [p0 0 (by omega)]) (p0 5 (by omega)) (fun a _ _ => p0 a (by omega)) (p0 10 (by omega))
  have h0 : AL M0 m0 t u nS nL nC nO RR := h.of T0 (h.1.2.1.cg (o0 145 (by omega)) (fun a _ _ => p0 a (by omega))) (h.1.2.2.1.cg (fun a _ => p0 a (by omega))) (h.1.2.2.2.cg (by rw [o0 152 (by omega)]; exact ⟨rfl, rfl, rfl, rfl, rfl, rfl, rfl⟩) (fun j _ => by rw [p0 0 (by omega)])) (h.2.2.2.1.cg (fun j _ => by rw [o0 153 (by omega)]) (p0 18 (by omega))) (o0 142 (by omega)) (o0 143 (by omega)) (o0 146 (by omega)) (fun j _ => by rw [o0 153 (by omega)]) (fun a _ => p0 a (by omega)) (fun j _ _ => by rw [p0 0 (by omega)])
  obtain ⟨N1, n1, t1, b1, g1, g2, g3, g4, g5, g6, g7, g8, g9, g10⟩ := request_L (j := s / 2) hfu hs2 h0.1.1 h0.1.2.1 h0.1.2.2.1 h0.1.2.2.2 ht
  have h1 : AL N1 n1 t1 u nS nL nC nO RR := h0.of g5 g6 g7 g8 (h0.2.2.2.1.cg (fun j _ => by rw [g9.1 153 (by omega) (by omega) (by omega) (by omega)]) (g10.1 18 (by omega) (by omega) (by omega) (by omega) (by omega))) (g9.1 142 (by omega) (by omega) (by omega) (by omega)) (g9.1 143 (by omega) (by omega) (by omega) (by omega)) (g9.1 146 (by omega) (by omega) (by omega) (by omega)) (fun j _ => by rw [g9.1 153 (by omega) (by omega) (by omega) (by omega)]) (fun a _ => g10.1 a (by omega) (by omega) (by omega) (by omega) (by omega)) (fun j _ _ => g10.2 j (by omega) (by omega) (by omega) (by omega) (by omega))
  have eL := scSplit (fu := fu) (M := M) (p := nI i)
  have eD : nI s / 2 = nI (s / 2) := pk_div (d := 2) (by omega) (by omega) (by omega)
  rw [e6, inb_nI (show 6 + i < 43 by omega) (by omega), grd_true, inb_nI i3 (by omega), grd_true, nI_clamp (show 6 + i < 2 ^ 31 by omega), nI_clamp (show i < 2 ^ 31 by omega), hsi, eD, show up M 150 i 0 = M0 from rfl, g1, bm_some] at eL
  have eM : f_X11_scans fu (nI i) m = bm (f_X11_requests fu (nI (s / 2)) (up m 43 i 0)) (fun r_4 M_5 => (if r_4 = 0 then some (1, M_5) else bd (f_X11_comes fu (nI i) (-1) 0 0 M_5) (fun M_8 => (if (M_8 0 62) = 0 then bd (f_X11_remembers fu (nI i) M_8) (fun M_12 => bd (f_X11_manySent fu (nI i) M_12) (fun r_14 => jn (fun (v_16 : Int32) => grd (inb (M_12 19 (nI i).toNatClampNeg) 6) (nm (up M_12 18 (M_12 19 (nI i).toNatClampNeg).toNatClampNeg v_16) (fun M_18 => grd (isb (M_18 0 62)) (some ((M_18 0 62), M_18))))) (fun k83_15 => (if r_14 = 0 then k83_15 (M_12 43 (nI i).toNatClampNeg) else grd (inb (M_12 19 (nI i).toNatClampNeg) 6) (k83_15 (M_12 18 (M_12 19 (nI i).toNatClampNeg).toNatClampNeg)))))) else grd (isb (M_8 0 62)) (some ((M_8 0 62), M_8)))))) := by
    unfold f_X11_scans
    refine grd_to (inb_nI i3 (by omega)) ?_
    refine nm_to (w := up m 43 i 0) (by rw [nI_clamp (by omega)]) ?_
    rw [nI_clamp (by omega), up_n (show 19 ≠ 43 by omega), hs, st_store, hst]
  rw [show up m 43 i 0 = m0 from rfl, g2, bm_some] at eM
  have fs1 : FLs M0 M := ⟨fun a _ _ _ _ h5 _ _ => o0 a h5, fun j _ _ _ _ _ _ _ => by rw [o0 152 (by omega)], fun j _ => by rw [o0 153 (by omega)]⟩
  have fs2 : FMs m0 m := ⟨fun a ha => p0 a (by omega), fun j _ _ _ _ _ _ _ => by rw [p0 0 (by omega)]⟩
  have fs3 : SLo i M0 m0 M m := fun i' B z1 z2 z3 => ⟨z3.1.cg (up_m z2) (fun x _ => by rw [o0 149 (by omega)]), z3.2.1.cg (up_m z2) (p0 44 (by omega)) (p0 45 (by omega)), z3.2.2⟩
  have fr3 : SLo i N1 n1 M0 m0 := SLo.of (g9.1 149 (by omega) (by omega) (by omega) (by omega)) (g9.1 150 (by omega) (by omega) (by omega) (by omega)) (g10.1 43 (by omega) (by omega) (by omega) (by omega) (by omega)) (g10.1 44 (by omega) (by omega) (by omega) (by omega) (by omega)) (g10.1 45 (by omega) (by omega) (by omega) (by omega) (by omega))
  have sl0 : SL M0 m0 i [] := ⟨⟨up_s, by simp, fun k r hr => by simp at hr⟩, ⟨up_s, by simp, fun k r hr => by simp at hr⟩, fun r hr => by simp at hr⟩
  have sl1 : SL N1 n1 i [] := sl0.cg (g9.1 149 (by omega) (by omega) (by omega) (by omega)) (g9.1 150 (by omega) (by omega) (by omega) (by omega)) (g10.1 43 (by omega) (by omega) (by omega) (by omega) (by omega)) (g10.1 44 (by omega) (by omega) (by omega) (by omega) (by omega)) (g10.1 45 (by omega) (by omega) (by omega) (by omega) (by omega))
  cases b1 with
  | false =>
    rw [show bI false = 0 from rfl, if_pos rfl] at eL eM
    exact ⟨N1, n1, [], true, t1, eL, eM, ⟨g3, g4⟩, h1, sl1, g9.fs.trans fs1, g10.sf.trans fs2, fr3.trans fs3⟩
  | true =>
    rw [show bI true = 1 from rfl, if_neg (by decide)] at eL eM
    obtain ⟨cap, hc1, hc2⟩ := h1.1.2.2.1.2.2.1 (s / 2) hs2
    obtain ⟨r1, r2, r3⟩ := h1.2.2.1 s hs6
    have hn19 : n1 19 i = nI s := by rw [g10.1 19 (by omega) (by omega) (by omega) (by omega) (by omega), p0 19 (by omega)]; exact hs
    have hct := ct_le (P := rsel (n1 48) none 0 0 (RR s)) (n := (RR s).length)
    have h10 := r1.2.1
    obtain ⟨N2, n2, A', cut, k1, k2, k3, k4, k5, k6, k7, k8, k9, k10⟩ := come_L (co := none) (a := 0) (b := 0) (a9 := 147) (l9 := 48) (cap := cap) (A := []) hfu hi hs6 r3 (fun c hc => by cases hc) (Nat.le_refl _) (by omega) (by omega) (by omega) hc1 (by omega) h1.2.1.1 h1.2.1.2 hn19 r1 r2 (fun j z1 z2 => by omega) (by rw [(h1.1.2.1 (s / 2) hs2).2.2.2.1]; exact hc2) hc2 sl1 (by simp; omega) h1.1.2.2.1.2.2.2.2 h1.1.2.2.2
    rw [show oI none = -1 from rfl, show nI 0 = (0 : Int32) from rfl] at k1 k2
    rw [k1, bd_some, k5] at eL
    rw [k2, bd_some, k4] at eM
    have T2 : TN N2 n2 t1 u := h1.1.1.cg (k6.1 147 (by omega) (by omega) (by omega)) (k6.1 148 (by omega) (by omega) (by omega)) (k6.1 144 (by omega) (by omega) (by omega)) ⟨k6.2 0 (by omega) (by omega) (by omega) (by omega), k6.2 1 (by omega) (by omega) (by omega) (by omega), k6.2 3 (by omega) (by omega) (by omega) (by omega)⟩ (k7.2 7 (by omega) (by omega) (by omega) (by omega)) (k7.2 8 (by omega) (by omega) (by omega) (by omega)) (k7.2 39 (by omega) (by omega) (by omega) (by omega)) (k7.1 5 (by omega) (by omega) (by omega) (by omega)) (fun a _ _ => k7.1 a (by omega) (by omega) (by omega) (by omega)) (k7.1 10 (by omega) (by omega) (by omega) (by omega))
    have h2 : AL N2 n2 t1 u nS nL nC nO RR := h1.of T2 (h1.1.2.1.cg (k6.1 145 (by omega) (by omega) (by omega)) (fun a _ _ => k7.1 a (by omega) (by omega) (by omega) (by omega))) (h1.1.2.2.1.cg (fun a _ => k7.1 a (by omega) (by omega) (by omega) (by omega))) k10 (h1.2.2.2.1.cg (fun j _ => by rw [k6.1 153 (by omega) (by omega) (by omega)]) (k7.1 18 (by omega) (by omega) (by omega) (by omega))) (k6.1 142 (by omega) (by omega) (by omega)) (k6.1 143 (by omega) (by omega) (by omega)) (k6.1 146 (by omega) (by omega) (by omega)) (fun j _ => by rw [k6.1 153 (by omega) (by omega) (by omega)]) (fun a _ => k7.1 a (by omega) (by omega) (by omega) (by omega)) (fun j _ _ => k7.2 j (by omega) (by omega) (by omega) (by omega))
    have F2 : FLs N2 M := k6.fs.trans (g9.fs.trans fs1)
    have F2m : FMs n2 m := k7.sf.trans (g10.sf.trans fs2)
    have F2o : SLo i N2 n2 M m := k8.trans (fr3.trans fs3)
    cases cut with
    | true =>
      rw [show bI true = 1 from rfl, if_pos rfl] at eL
      rw [show bI true = 1 from rfl, if_neg (by decide), show isb 1 = true from rfl, grd_true] at eM
      exact ⟨N2, n2, A', true, t1, eL, eM, ⟨g3, g4⟩, h2, k3, F2, F2m, F2o⟩
    | false =>
      rw [show bI false = 0 from rfl, if_neg (by decide)] at eL
      rw [show bI false = 0 from rfl, if_pos rfl] at eM
      obtain ⟨⟨c1, c2, c3⟩, L, sr, kt, l1, l2, l3, l4, l5, l6⟩ := id T2
      have hn2s : n2 19 i = nI s := by rw [k7.1 19 (by omega) (by omega) (by omega) (by omega)]; exact hn19
      obtain ⟨n3, x1, x2, x3, x4⟩ := rem_ok (t := t1) hfu l1 h2.2.1.2 i3 hn2s hs6 k3.2.1 c2
      rw [x1, bd_some] at eM
      have fD3 : DS n3 n2 := ⟨fun a z1 z2 => x3 a (by omega) (by omega), fun j z1 z2 => by
        by_cases hj : j = 39
        · omega
        · exact x4 j hj⟩
      rw [manySent_eq hfu (h2.2.1.2.cg fD3) i3, bd_some, fD3.cs] at eM
      have hctb := ct_le (P := snt n2 i) (n := nC)
      have hcb := h2.2.1.2.2.2.1.2
      have z0 : (nI (ct (snt n2 i) nC) = 0) = (ct (snt n2 i) nC = 0) := propext (by rw [lit, nI_eq (by omega) (by omega)])
      have hn19' : n3 19 i = nI s := by rw [x3 19 (by omega) (by omega)]; exact hn2s
      have hn43 : n3 43 i = nI A'.length := by rw [x3 43 (by omega) (by omega)]; exact k3.2.1.1
      have h62 : n3 0 62 = 0 := by rw [x4 62 (by omega)]; exact k4
      have hA10 := k3.1.2.1
      let n4 := up n3 18 s (if ct (snt n2 i) nC = 0 then nI A'.length else n3 18 s)
      have eM4 : f_X11_scans fu (nI i) m = some (0, n4) := by
        rw [eM]
        simp only [jn_d, nI_clamp (show i < 2 ^ 31 by omega), hn19', nI_clamp (show s < 2 ^ 31 by omega), inb_nI hs6 (show 6 < 2 ^ 31 by omega), hn43, z0, grd_true, nm_d]
        by_cases hc0 : ct (snt n2 i) nC = 0
        · rw [if_pos hc0, up_n (show 0 ≠ 18 by omega), h62, show isb 0 = true from rfl, grd_true]
          show _ = some ((0 : Int32), up n3 18 s (if ct (snt n2 i) nC = 0 then nI A'.length else n3 18 s))
          rw [if_pos hc0]
        · rw [if_neg hc0, up_n (show 0 ≠ 18 by omega), h62, show isb 0 = true from rfl, grd_true]
          show _ = some ((0 : Int32), up n3 18 s (if ct (snt n2 i) nC = 0 then nI A'.length else n3 18 s))
          rw [if_neg hc0]
      -- the law's list before the new one
      obtain ⟨P, y1, y2, y3, y4⟩ : ∃ P, f_L_scan fu (nI i) M = scK fu (nI i) (nI s) P ∧ LCk P u sr kt (rot L) ∧ (∀ a, a ≠ 147 → a ≠ 148 → a ≠ 152 → P a = N2 a) ∧ ∀ j, j ≠ 3 → P 152 j = N2 152 j := by
        by_cases hl6 : L.length = 6
        · rw [l3.1, hl6, show nI 6 = (6 : Int32) from rfl, if_pos rfl] at eL
          obtain ⟨P, y1, y2, y3, y4⟩ := rot_L (fu := fu) (K := scK fu (nI i) (nI s)) hfu l3 hl6
          exact ⟨P, eL.trans y1, by rw [show rot L = L.drop 1 by simp [rot, hl6]]; exact y2, y3, y4⟩
        · have : ¬ nI L.length = (6 : Int32) := by rw [lit, nI_eq (by have := l3.2.1; omega) (by omega)]; exact hl6
          rw [l3.1, if_neg this] at eL
          exact ⟨N2, eL, by rw [show rot L = L by simp [rot, hl6]]; exact l3, fun _ _ _ _ => rfl, fun _ _ => rfl⟩
      have hrl := rot_len l3.2.1
      have HP : HIST P t1 u sr kt := l4.cg (y3 144 (by omega) (by omega) (by omega)) (y4 0 (by omega)) (Nat.le_refl _)
      obtain ⟨N4, v1, v2, v3, v4, v5⟩ := keep_L (i := i) (M := P) (m := n2) (L := rot L) (A := A') hfu hi hs6 (h2.2.1.1.cg (y3 146 (by omega) (by omega) (by omega)) (fun _ _ _ => rfl) rfl rfl) h2.2.1.2 (k3.1.cg2 (y3 150 (by omega) (by omega) (by omega)) (y3 149 (by omega) (by omega) (by omega))) k3.2.2 y2 hrl HP (by rw [y4 1 (by omega)]; exact c1) (l5 s hs6)
      rw [v1] at y1
      have w1 : ∀ a, a ≠ 147 → a ≠ 148 → a ≠ 152 → a ≠ 153 → N4 a = N2 a := fun a z1 z2 z3 z4 => by rw [v3 a z1 z2 z3 z4, y3 a z1 z2 z3]
      have w2 : ∀ j, j ≠ 3 → N4 152 j = N2 152 j := fun j hj => by rw [v4 j hj, y4 j hj]
      have w3 : N4 153 = if ct (snt n2 i) nC = 0 then upd (N2 153) s (nI A'.length) else N2 153 := by rw [v5, y3 153 (by omega) (by omega) (by omega)]
      have w6 : ∀ j, 6 ≤ j → N4 153 j = N2 153 j := fun j hj => by
        rw [w3]
        split
        · simp [upd, show j ≠ s by omega]
        · rfl
      have fn4 : ∀ a, 0 < a → a < 30 ∨ 41 < a → a ≠ 18 → n4 a = n2 a := fun a z1 z2 z3 => by show up n3 18 s _ a = _; rw [up_n z3]; exact x3 a z1 z2
      have fn40 : ∀ j, j ≠ 39 → n4 0 j = n2 0 j := fun j hj => by show up n3 18 s _ 0 j = _; rw [up_n (by omega)]; exact x4 j hj
      have hls := h2.1.2.1 (s / 2) hs2
      obtain ⟨ls, ls1, ls2⟩ := hls.2.2.2.2.2.2.2.2.2.2
      have hT4 : TN N4 n4 t1 u := by
        refine TN.snoc (L := L) (by rw [w2 1 (by omega)]; exact c1) (by rw [fn40 8 (by omega)]; exact c2) (by rw [fn40 7 (by omega)]; exact c3) (x2.cg (by show up n3 18 s _ 0 39 = _; rw [up_n (by omega)]) (fun a _ _ => by show up n3 18 s _ a = _; rw [up_n (by omega)])) l2 ?_ v2 (HP.cg (v3 144 (by omega) (by omega) (by omega) (by omega)) (v4 0 (by omega)) (Nat.le_refl _)) (fun s hs => by rw [fn4 5 (by omega) (by omega) (by omega)]; exact l5 s hs) (by rw [fn4 10 (by omega) (by omega) (by omega)]; exact l6) ?_
        · exact ⟨⟨t1, Nat.le_refl _, rfl⟩, ⟨lw sr s u, lw_le, l5 s hs6⟩, fun d hd => (by cases hd), fun d hd => (by cases hd), fun r hr => (k3.2.2 r hr).2⟩
        · rw [fn4 10 (by omega) (by omega) (by omega)]
          simp only [gone, ls2]
          rw [show nI t1 - nI t1 = nI 0 by rw [pk_sub (Nat.le_refl _)]; congr 1; omega]
          have : ¬ nI ls < nI 0 := nI_nlt (by omega) (by omega)
          simp [this]
      have hZ4 : ZL N4 n4 := fun x hx => by
        have := h2.2.2.2.1 x hx
        by_cases hxs : x = s
        · subst hxs
          show N4 153 x = up n3 18 x _ 18 x ∧ ∃ z, z ≤ 12 ∧ up n3 18 x _ 18 x = nI z
          rw [up_s, w3]
          by_cases hc0 : ct (snt n2 i) nC = 0
          · rw [if_pos hc0, if_pos hc0]
            refine ⟨by simp [upd], A'.length, by omega, rfl⟩
          · rw [if_neg hc0, if_neg hc0, x3 18 (by omega) (by omega)]
            exact this
        · show N4 153 x = up n3 18 s _ 18 x ∧ ∃ z, z ≤ 12 ∧ up n3 18 s _ 18 x = nI z
          rw [up_m hxs, x3 18 (by omega) (by omega), w3]
          have : (if ct (snt n2 i) nC = 0 then upd (N2 153) s (nI A'.length) else N2 153) x = N2 153 x := by
            split
            · simp [upd, hxs]
            · rfl
          rw [this]
          assumption
      have hQ4 : QS N4 n4 := h2.1.2.2.2.cg ⟨w2 4 (by omega), w2 5 (by omega), w2 6 (by omega), w2 7 (by omega), w2 8 (by omega), w2 9 (by omega), w2 13 (by omega)⟩ (fun j hj => fn40 j (by omega))
      have h4 : AL N4 n4 t1 u nS nL nC nO RR := h2.of hT4 (h2.1.2.1.cg (w1 145 (by omega) (by omega) (by omega) (by omega)) (fun a _ _ => fn4 a (by omega) (by omega) (by omega))) (h2.1.2.2.1.cg (fun a _ => fn4 a (by omega) (by omega) (by omega))) hQ4 hZ4 (w1 142 (by omega) (by omega) (by omega) (by omega)) (w1 143 (by omega) (by omega) (by omega) (by omega)) (w1 146 (by omega) (by omega) (by omega) (by omega)) w6 (fun a _ => fn4 a (by omega) (by omega) (by omega)) (fun j _ _ => fn40 j (by omega))
      refine ⟨N4, n4, A', false, t1, y1, eM4, ⟨g3, g4⟩, h4, k3.cg (w1 149 (by omega) (by omega) (by omega) (by omega)) (w1 150 (by omega) (by omega) (by omega) (by omega)) (fn4 43 (by omega) (by omega) (by omega)) (fn4 44 (by omega) (by omega) (by omega)) (fn4 45 (by omega) (by omega) (by omega)), FLs.trans ⟨fun a _ z2 z3 _ _ z6 z7 => w1 a z2 z3 z6 z7, fun j _ z2 _ _ _ _ _ => w2 j z2, w6⟩ F2, FMs.trans ⟨fun a ha => fn4 a (by omega) (by omega) (by omega), fun j _ z2 _ _ _ _ _ => fn40 j z2⟩ F2m, SLo.trans (SLo.of (w1 149 (by omega) (by omega) (by omega) (by omega)) (w1 150 (by omega) (by omega) (by omega) (by omega)) (fn4 43 (by omega) (by omega) (by omega)) (fn4 44 (by omega) (by omega) (by omega)) (fn4 45 (by omega) (by omega) (by omega))) F2o⟩
end ScanW
