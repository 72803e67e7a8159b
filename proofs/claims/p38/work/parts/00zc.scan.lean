/-! ===== a scan of a seat: both ===== -/
def FR (M m : Mem) : Prop := ∀ s k, s < 6 → k < 3 → ∃ b : Bool, M 54 (3 * s + k) = bI b ∧ (((m 17 s >>> (nI k &&& nI 31)) &&& nI 1 = nI 1) ↔ b = true)
def ZR (M m : Mem) : Prop := M 59 = m 18 ∧ ∀ s, s < 6 → ∃ z, z ≤ 12 ∧ m 18 s = nI z
def AB (M m : Mem) (t u nS nL nC nO : Nat) (RR : Nat → List Row) (t0 dl c0 sc : Nat) : Prop := WR M m t u RR ∧ DR M m ∧ DG m nS nL nC nO ∧ ZR M m ∧ FR M m ∧ M 121 = m 48 ∧ QR M m t0 dl c0 sc ∧ t0 ≤ t
def FCs (i : Nat) (N M : Mem) : Prop := (∀ a, 80 ≤ a → a ≠ 90 → a ≠ 96 + 3 * i → a ≠ 96 + 3 * i + 1 → a ≠ 96 + 3 * i + 2 → N a = M a) ∧ ∀ j, j ≠ 7 → j ≠ 9 → j ≠ 10 → j ≠ 11 → N 90 j = M 90 j
def FMs (n m : Mem) : Prop := (∀ a, (1 ≤ a ∧ a ≤ 5) ∨ a = 17 ∨ (19 ≤ a ∧ a ≤ 29) ∨ a = 42 ∨ 46 ≤ a → n a = m a) ∧ ∀ j, j ≠ 8 → j ≠ 39 → j ≠ 55 → j ≠ 62 → j ≠ 80 → j ≠ 81 → j ≠ 82 → n 0 j = m 0 j
section Scan
variable {fu nS nL nC nO i j s t u e p c t0 dl c0 sc : Nat} {M m N n : Mem} {RR : Nat → List Row} {A : List Row} {o : Nat} {L : List Ent}
theorem FCs.rfl : FCs i M M := ⟨fun _ _ _ _ _ _ => Eq.refl _, fun _ _ _ _ _ => Eq.refl _⟩
theorem FMs.rfl : FMs m m := ⟨fun _ _ => Eq.refl _, fun _ _ _ _ _ _ _ _ => Eq.refl _⟩
theorem FCs.trans {P : Mem} (h : FCs i N P) (h' : FCs i P M) : FCs i N M := ⟨fun a h1 h2 h3 h4 h5 => by rw [h.1 a h1 h2 h3 h4 h5, h'.1 a h1 h2 h3 h4 h5], fun j h1 h2 h3 h4 => by rw [h.2 j h1 h2 h3 h4, h'.2 j h1 h2 h3 h4]⟩
theorem FMs.trans {P : Mem} (h : FMs n P) (h' : FMs P m) : FMs n m := ⟨fun a h1 => by rw [h.1 a h1, h'.1 a h1], fun j h1 h2 h3 h4 h5 h6 h7 => by rw [h.2 j h1 h2 h3 h4 h5 h6 h7, h'.2 j h1 h2 h3 h4 h5 h6 h7]⟩
theorem FCq.sf (h : FCq N M) : FCs i N M := ⟨fun a h1 h2 h3 h4 h5 => h.1 a (by omega) (by omega) (by omega) (by omega) (by omega) (by omega) h2, fun j h1 h2 h3 h4 => h.2 j h2 h3⟩
theorem FMq.sf (h : FMq n m) : FMs n m := ⟨fun a ha => h.1 a (by omega) (by omega) (by omega) (by omega) (by omega), fun j h1 h2 h3 h4 h5 h6 h7 => h.2 j h1 h2 h5 h6 h3⟩
theorem FCr.sf (h : FCr i N M) : FCs i N M := ⟨fun a h1 h2 h3 h4 h5 => h.1 a h2 h3 h4 h5, fun j h1 h2 h3 h4 => h.2 j h1 h2 h4⟩
theorem FMr.sf (h : FMr n m) : FMs n m := ⟨fun a ha => h.1 a (by omega) (by omega) (by omega) (by omega), fun j h1 h2 h3 h4 h5 h6 h7 => h.2 j h3 h4 h5 h7⟩
theorem FMs.ds (h : FMs n m) : DS n m := ⟨fun a h1 h2 => h.1 a (by omega), fun j h1 h2 => by
  by_cases hj : j = 39
  · omega
  · exact h.2 j (by omega) hj (by omega) (by omega) (by omega) (by omega) (by omega)⟩
theorem WR.of {t' : Nat} (h : WR M m t u RR) (hk : KR N n t' u) (fC : ∀ a, 57 ≤ a → a ≤ 79 → a ≠ 59 → N a = M a) (fM : ∀ a, 1 ≤ a → a ≤ 5 → n a = m a) (f6 : n 0 6 = m 0 6) : WR N n t' u RR := by
  obtain ⟨_, hS, hG, h58, h60, h57⟩ := h
  refine ⟨hk, (hS.cgC (fun a h1 h2 => fC a (by omega) (by omega) (by omega))).cgM (fM 1 (by omega) (by omega)) (fM 2 (by omega) (by omega)) (fM 3 (by omega) (by omega)), fun s hs => ?_, ?_, ?_, ?_⟩
  · obtain ⟨g1, g2, g3, g4, g5⟩ := hG s hs
    exact ⟨g1, g2, g3, by rw [fM 4 (by omega) (by omega)]; exact g4, by rw [fM 5 (by omega) (by omega)]; exact g5⟩
  · rw [fC 58 (by omega) (by omega) (by omega), fM 4 (by omega) (by omega)]; exact h58
  · rw [fC 60 (by omega) (by omega) (by omega), fM 5 (by omega) (by omega)]; exact h60
  · rw [fC 57 (by omega) (by omega) (by omega), f6]; exact h57
theorem KR.ent (h : KR M m t u) (hC : EC N L) (hM : EM n L) (hE : EG t u L) (fC : ∀ a, a = 1 ∨ a = 4 ∨ a = 5 ∨ (48 ≤ a ∧ a ≤ 56) → N a = M a) (f7 : n 0 7 = m 0 7) (f8 : n 0 8 = m 0 8) (fM : ∀ a, 6 ≤ a → a ≤ 16 → n a = m a) : KR N n t u := by
  obtain ⟨⟨a1, a2, a3, a4⟩, ⟨b1, b2, b3, b4, b5, b6, b7, b8, b9⟩, ⟨c1, c2, c3, c4, c5⟩, _⟩ := h
  refine ⟨⟨?_, ?_, ?_, ?_⟩, ⟨?_, ?_, ?_, ?_, ?_, ?_, ?_, ?_, ?_⟩, ⟨?_, ?_, ?_, ?_, ?_⟩, L, hC, hM, hE⟩
  all_goals (try simp (disch := omega) only [fC, f7, f8, fM])
  all_goals assumption
theorem rot_mem {E : Ent} (h : E ∈ rot L) : E ∈ L := by
  simp only [rot] at h
  split at h
  · exact List.mem_of_mem_drop h
  · exact h
theorem EG.snoc {E : Ent} (h : EG t u L) (hE : E1 t u E) : EG t u (rot L ++ [E]) := by
  intro E' h'
  rcases List.mem_append.mp h' with h1 | h1
  · exact h E' (rot_mem h1)
  · rw [List.mem_singleton.mp h1]; exact hE
theorem FR.cg (h : FR M m) (h1 : N 54 = M 54) (h2 : n 17 = m 17) : FR N n := fun s k hs hk => by rw [h1, h2]; exact h s k hs hk
/-- the whole base after a step that leaves sources and draft -/
theorem AB.of {t' sc' : Nat} (h : AB M m t u nS nL nC nO RR t0 dl c0 sc) (hk : KR N n t' u) (ht : t ≤ t') (hq : QR N n t0 dl c0 sc') (fC : ∀ a, (54 = a ∨ (57 ≤ a ∧ a ≤ 79 ∧ a ≠ 59) ∨ (80 ≤ a ∧ a ≤ 89) ∨ a = 121) → N a = M a) (fM : ∀ a, (1 ≤ a ∧ a ≤ 5) ∨ a = 17 ∨ (19 ≤ a ∧ a ≤ 29) ∨ a = 48 → n a = m a) (f0 : ∀ j, j = 6 ∨ (22 ≤ j ∧ j ≤ 38) → n 0 j = m 0 j) (hz : ZR N n) : AB N n t' u nS nL nC nO RR t0 dl c0 sc' := by
  obtain ⟨h1, h2, h3, h4, h5, h6, h7, h8⟩ := h
  have hD : DS n m := ⟨fun a z1 z2 => fM a (by omega), fun j z1 z2 => f0 j (by omega)⟩
  exact ⟨h1.of hk (fun a z1 z2 z3 => fC a (by omega)) (fun a z1 z2 => fM a (by omega)) (f0 6 (by omega)), h2.cg (fun a z1 z2 => fC a (by omega)) hD, h3.cg hD, hz, h5.cg (fC 54 (by omega)) (fM 17 (by omega)), by rw [fC 121 (by omega), fM 48 (by omega)]; exact h6, hq, by omega⟩
theorem ZR.cg (h : ZR M m) (h1 : N 59 = M 59) (h2 : n 18 = m 18) : ZR N n := ⟨by rw [h1, h2]; exact h.1, fun s hs => by rw [h2]; exact h.2 s hs⟩
theorem AB.st (h : AB M m t u nS nL nC nO RR t0 dl c0 sc) (hi : i < nS) : ∃ s cap, s < 6 ∧ m 19 i = nI s ∧ cap ≤ 12 ∧ St M m i s nS nL nC nO cap (RR s) (m 48) ∧ okR (RR s) := by
  obtain ⟨h1, h2, h3, h4, h5, h6, h7, h8⟩ := h
  obtain ⟨s, hs, e⟩ := h3.src hi
  obtain ⟨cap, k1, k2⟩ := h1.1.2.2.1.2.2.1 (s / 2) (by omega)
  obtain ⟨z1, z2⟩ := h1.2.1 s hs
  exact ⟨s, cap, hs, e, k1, ⟨h2, h3, e, z1, z2, h6, rfl, h1.1.2.1.2.2.2.1, k2⟩, (h1.2.2.1 s hs).2.1⟩
theorem freight_b {k : Nat} : ∃ fr, fr ≤ 2 ∧ freight k = nI fr := by
  simp only [freight]
  split
  · exact ⟨1, by omega, rfl⟩
  · split
    · exact ⟨1, by omega, rfl⟩
    · exact ⟨2, by omega, rfl⟩
theorem fee_b {k : Nat} : ∃ fe, fe ≤ 5 ∧ fee k = nI fe := by
  simp only [fee]
  split
  · exact ⟨5, by omega, rfl⟩
  · split
    · exact ⟨1, by omega, rfl⟩
    · exact ⟨3, by omega, rfl⟩
/-- a request of a seat -/
theorem AB.req (hfu : 5000 ≤ fu) (h : AB M m t u nS nL nC nO RR t0 dl c0 sc) (hs : s < 3) (ht : t + 120 < 2 ^ 29) (hl : t0 + dl < 2 ^ 29) (hc : c0 + sc + 15 < 2 ^ 29) : ∃ N n t' sc' r, f_X1_request fu (nI s) M = some (r, N) ∧ f_X11_requests fu (nI s) m = some (r, n) ∧ (r = 0 ∨ r = 1) ∧ (t ≤ t' ∧ t' ≤ t + 120) ∧ sc' ≤ sc + 15 ∧ AB N n t' u nS nL nC nO RR t0 dl c0 sc' ∧ FCq N M ∧ FMq n m := by
  obtain ⟨N, n, t', sc', r, g1, g2, g3, g4, g5, g6, g7, g8, g9, g10, g11⟩ := request2 hfu hs h.1.1 h.2.2.2.2.2.2.1 h.2.2.2.2.2.2.2 ht hl hc
  have fC : ∀ a, 54 = a ∨ (57 ≤ a ∧ a ≤ 89) ∨ a = 121 → N a = M a := fun a ha => g10.1 a (by omega) (by omega) (by omega) (by omega) (by omega) (by omega) (by omega)
  exact ⟨N, n, t', sc', r, g1, g2, g3, ⟨g4, g5⟩, g7, h.of g8 g4 g9 (fun a ha => fC a (by omega)) (fun a ha => g11.1 a (by omega) (by omega) (by omega) (by omega) (by omega)) (fun j hj => g11.2 j (by omega) (by omega) (by omega) (by omega) (by omega)) (h.2.2.2.1.cg (fC 59 (by omega)) (g11.1 18 (by omega) (by omega) (by omega) (by omega) (by omega))), g10, g11⟩
/-- rows for a seat -/
theorem AB.rec {B a b cap : Nat} {b0 : Bool} {co : Option Nat} (hfu : 5000 ≤ fu) (h : AB M m t u nS nL nC nO RR t0 dl c0 sc) (hi : i < nS) (hs6 : s < 6) (hcap : cap ≤ 12) (hSt : St M m i s nS nL nC nO cap (RR s) (m 48)) (hok : okR (RR s)) (hco : ∀ c, co = some c → c < 4) (hab : a ≤ b) (hb : b ≤ 12) (hB : B ≤ 12) (ho : o < 8) (hbit : o.testBit i = false) (hA1 : RC M (96 + 3 * i) A) (hA2 : RS m i A) (hlen : A.length + ct (rsel (m 48) co a b (RR s)) (RR s).length ≤ B) (hm7 : M 90 7 = nI (ob o i b0)) :
    ∃ N n A' cut sc', f_X1_receive fu (nI i) (oI co) (nI a) (nI b) M = some (bI (!(b0 || cut)), N) ∧ f_X11_comes fu (nI i) (oI co) (nI a) (nI b) m = some n ∧ sc' ≤ sc + 24 ∧ RC N (96 + 3 * i) A' ∧ RS n i A' ∧ A'.length ≤ B ∧ AB N n t u nS nL nC nO RR t0 dl c0 sc' ∧ N 90 7 = nI (ob o i (b0 || cut)) ∧ n 0 62 = bI cut ∧ FCr i N M ∧ FMr n m ∧ RSo i n m ∧ (∀ r ∈ A', r ∈ A ∨ r ∈ RR s) := by
  obtain ⟨fr, f1, f2⟩ := freight_b (k := s / 2)
  have hi3 : i < 3 := by have := hSt.2.1.1.2; omega
  obtain ⟨N, n, A', cnt, cut, g1, g2, g3, g4, g5, g6, g7, g8, g9, g10, g11, g12, g13⟩ := rec2 hfu hi3 hs6 hok hco hab hb hcap hB ho hbit f2 h.1.1.2.2.1.2.2.2.2 hSt hA1 hA2 hlen h.2.2.2.2.2.2.1 hm7
  have hcf : cnt * fr ≤ 12 * 2 := Nat.mul_le_mul g6 f1
  have fC : ∀ a, a ≤ 89 ∨ a = 121 → N a = M a := fun a ha => g10.1 a (by omega) (by omega) (by omega) (by omega)
  have fM : ∀ a, 0 < a → a < 43 ∨ 45 < a → n a = m a := fun a h1 h2 => g11.1 a (by omega) (by omega) (by omega) (by omega)
  refine ⟨N, n, A', cut, sc + cnt * fr, g1, g2, by omega, g3, g4, g5, ?_, g8, g9, g10, g11, g12, g13⟩
  refine h.of (h.1.1.cg (fun a h1 h2 h3 => fC a (by omega)) (g11.2 7 (by omega) (by omega) (by omega) (by omega)) (g11.2 8 (by omega) (by omega) (by omega) (by omega)) (g11.2 39 (by omega) (by omega) (by omega) (by omega)) (fun a h1 h2 => fM a (by omega) (by omega)) (fun a h1 h2 => fM a (by omega) (by omega))) (Nat.le_refl _) g7 (fun a ha => fC a (by omega)) (fun a ha => fM a (by omega) (by omega)) (fun j hj => g11.2 j (by omega) (by omega) (by omega) (by omega)) (h.2.2.2.1.cg (fC 59 (by omega)) (fM 18 (by omega) (by omega)))
theorem scan2 {b0 : Bool} (hfu : 5000 ≤ fu) (h : AB M m t u nS nL nC nO RR t0 dl c0 sc) (hi : i < nS) (ht : t + 120 < 2 ^ 29) (hl : t0 + dl < 2 ^ 29) (hc : c0 + sc + 39 < 2 ^ 29) (ho : o < 8) (hbit : o.testBit i = false) (hm7 : M 90 7 = nI (ob o i b0)) :
    ∃ N n A opn t' sc', f_X1_scan fu (nI i) M = some N ∧ f_X11_scans fu (nI i) m = some (bI opn, n) ∧ (t ≤ t' ∧ t' ≤ t + 120) ∧ sc' ≤ sc + 39 ∧ AB N n t' u nS nL nC nO RR t0 dl c0 sc' ∧ RC N (96 + 3 * i) A ∧ RS n i A ∧ okR A ∧ N 90 7 = nI (ob o i opn) ∧ FCs i N M ∧ FMs n m ∧ RSo i n m := by
  obtain ⟨s, cap, hs6, hs, hcap, hSt, hok⟩ := h.st hi
  have hi3 : i < 3 := by have := hSt.2.1.1.2; omega
  have hsrc : M 81 i = nI s := by rw [hSt.1.2.1.1]; exact hs
  have hst : f_X10_storeOf (nI s) = nI (s / 2) := sto hs6
  have hs2 : s / 2 < 3 := by omega
  have hclr := (bits ho hi3 b0 hbit).2.2.1
  have hob := ob o i false
  have hob0 : ob o i false = o := rfl
  -- the start
  have h1 : AB (up (up M (96 + 3 * i) 2 0) 90 7 (nI o)) (up m 43 i 0) t u nS nL nC nO RR t0 dl c0 sc := by
    refine h.of (h.1.1.cg (fun a h1 h2 h3 => by rw [up_n (by omega), up_n (by omega)]) (by rw [up_n (by omega)]) (by rw [up_n (by omega)]) (by rw [up_n (by omega)]) (fun a h1 h2 => by rw [up_n (by omega)]) (fun a h1 h2 => by rw [up_n (by omega)])) (Nat.le_refl _) ?_ (fun a ha => by rw [up_n (by omega), up_n (by omega)]) (fun a ha => by rw [up_n (by omega)]) (fun j hj => by rw [up_n (by omega)]) (h.2.2.2.1.cg (by rw [up_n (by omega), up_n (by omega)]) (by rw [up_n (by omega)]))
    obtain ⟨q1, q2, q3, q4, q5, q6, q7, q8⟩ := h.2.2.2.2.2.2.1
    refine ⟨by rw [up_n (by omega), up_n (by omega)]; exact q1, by rw [up_n (by omega)]; exact q2, by rw [up_n (by omega)]; exact q3, ?_, by rw [up_n (by omega)]; exact q5, by rw [up_n (by omega)]; exact q6, ?_, ?_⟩
    · rw [up_m (by omega), up_n (by omega)]; exact q4
    · rw [up_m (by omega), up_n (by omega), up_n (by omega)]; exact q7
    · rw [up_m (by omega), up_n (by omega), up_n (by omega)]; exact q8
  obtain ⟨N1, n1, t1, sc1, r, g1, g2, g3, g4, g5, g6, g7, g8⟩ := h1.req hfu hs2 ht hl (by omega)
  have eC : f_X1_scan fu (nI i) M = bm (f_X1_request fu (nI (s / 2)) (up (up M (96 + 3 * i) 2 0) 90 7 (nI o))) (fun r_7 M_8 => (if r_7 = 0 then bd (f_X1_open fu (nI i) M_8) (fun M_27 => some M_27) else bm (f_X1_receive fu (nI i) (-1) 0 0 M_8) (fun r_11 M_12 => (if r_11 = 0 then some M_12 else bd (f_X4_sentOf fu (nI i) M_12) (fun r_15 => jn (fun (M_17 : Mem) => nm (95 + 1 + 3 * (nI i).toNatClampNeg) (fun a_18 => grd (inb (nI s) 6) (bd (f_X3_keep fu (nI i) a_18 (M_17 60 (nI s).toNatClampNeg) M_17) (fun M_21 => some M_21)))) (fun k102_16 => (if r_15 = 0 then nm (95 + 1 + 3 * (nI i).toNatClampNeg) (fun a_23 => grd (inb (nI s) 6) (nm (up M_12 59 (nI s).toNatClampNeg (M_12 a_23 2)) (fun M_25 => k102_16 M_25))) else k102_16 M_12))))))) := by
    have e1 : (M 90 7 &&& ((1 <<< (nI i &&& 31)) ^^^ (-1))) = nI o := by rw [hm7]; exact hclr
    have e2 : up M (96 + 3 * i) 2 0 90 = M 90 := up_n (by omega)
    unfold f_X1_scan
    refine grd_to (inb_nI hi3 (by omega)) ?_
    refine nm_to (w := nI s) (by rw [nI_clamp (by omega)]; exact hsrc) ?_
    refine nm_to (w := 96 + 3 * i) (by rw [nI_clamp (by omega)]) ?_
    refine nm_to (w := up M (96 + 3 * i) 2 0) (by rfl) ?_
    refine nm_to (w := up (up M (96 + 3 * i) 2 0) 90 7 (nI o)) (by rw [e2, e1]) ?_
    rw [hst]
  have eM : f_X11_scans fu (nI i) m = bm (f_X11_requests fu (nI (s / 2)) (up m 43 i 0)) (fun r_4 M_5 => (if r_4 = 0 then some (1, M_5) else bd (f_X11_comes fu (nI i) (-1) 0 0 M_5) (fun M_8 => (if (M_8 0 62) = 0 then bd (f_X11_remembers fu (nI i) M_8) (fun M_12 => bd (f_X11_manySent fu (nI i) M_12) (fun r_14 => jn (fun (v_16 : Int32) => grd (inb (M_12 19 (nI i).toNatClampNeg) 6) (nm (up M_12 18 (M_12 19 (nI i).toNatClampNeg).toNatClampNeg v_16) (fun M_18 => grd (isb (M_18 0 62)) (some ((M_18 0 62), M_18))))) (fun k83_15 => (if r_14 = 0 then k83_15 (M_12 43 (nI i).toNatClampNeg) else grd (inb (M_12 19 (nI i).toNatClampNeg) 6) (k83_15 (M_12 18 (M_12 19 (nI i).toNatClampNeg).toNatClampNeg)))))) else grd (isb (M_8 0 62)) (some ((M_8 0 62), M_8)))))) := by
    unfold f_X11_scans
    refine grd_to (inb_nI hi3 (by omega)) ?_
    refine nm_to (w := up m 43 i 0) (by rw [nI_clamp (by omega)]) ?_
    rw [nI_clamp (by omega), up_n (show 19 ≠ 43 by omega), hs, st_store, hst]
  have fs1 : FCs i (up (up M (96 + 3 * i) 2 0) 90 7 (nI o)) M := ⟨fun a h1 h2 h3 h4 h5 => by rw [up_n h2, up_n h3], fun j h1 h2 h3 h4 => by rw [up_m h1, up_n (by omega)]⟩
  have fs2 : FMs (up m 43 i 0) m := ⟨fun a ha => up_n (by omega), fun j h1 h2 h3 h4 h5 h6 h7 => by rw [up_n (by omega)]⟩
  have fs3 : RSo i (up m 43 i 0) m := fun i' A' z1 z2 z3 => z3.cg (by rw [up_m z2]) (by rw [up_n (by omega)]) (by rw [up_n (by omega)])
  have fr3 : RSo i n1 (up m 43 i 0) := fun i' A' z1 z2 z3 => z3.cg (by rw [g8.1 43 (by omega) (by omega) (by omega) (by omega) (by omega)]) (by rw [g8.1 44 (by omega) (by omega) (by omega) (by omega) (by omega)]) (by rw [g8.1 45 (by omega) (by omega) (by omega) (by omega) (by omega)])
  have rc1 : RC N1 (96 + 3 * i) [] := by
    refine ⟨?_, by simp, fun k r hr => by simp at hr⟩
    rw [g7.1 _ (by omega) (by omega) (by omega) (by omega) (by omega) (by omega) (by omega), up_n (by omega), up_s]
    rfl
  have rs1 : RS n1 i [] := by
    refine ⟨?_, by simp, fun k r hr => by simp at hr⟩
    rw [g8.1 43 (by omega) (by omega) (by omega) (by omega) (by omega), up_s]
    rfl
  have m71 : N1 90 7 = nI (ob o i false) := by rw [g7.2 7 (by omega) (by omega), up_s]; rfl
  rw [eC, eM, g1, g2, bm_some, bm_some]
  rcases g3 with rfl | rfl
  · rw [if_pos rfl, if_pos rfl]
    have hop := (bits ho hi3 false hbit).1
    refine ⟨up N1 90 7 (nI (ob o i true)), n1, [], true, t1, sc1, ?_, rfl, by omega, by omega, ?_, rc1.cg (by rw [up_n (by omega)]) (by rw [up_n (by omega)]) (by rw [up_n (by omega)]), rs1, fun r hr => by simp at hr, up_s, FCs.trans ⟨fun a h1 h2 h3 h4 h5 => up_n h2, fun j h1 h2 h3 h4 => up_m h1⟩ (g7.sf.trans fs1), g8.sf.trans fs2, fr3.trans fs3⟩
    · simp only [f_X1_open, nm_d, bd_some, m71]
      rw [show (1 <<< (nI i &&& 31) : Int32) = nI 1 <<< (nI i &&& nI 31) from rfl, hop]
    · refine g6.of (g6.1.1.cg (fun a h1 h2 h3 => by rw [up_n (by omega)]) rfl rfl rfl (fun a h1 h2 => rfl) (fun a h1 h2 => rfl)) (Nat.le_refl _) ?_ (fun a ha => by rw [up_n (by omega)]) (fun a ha => rfl) (fun j hj => rfl) (g6.2.2.2.1.cg (by rw [up_n (by omega)]) rfl)
      obtain ⟨q1, q2, q3, q4, q5, q6, q7, q8⟩ := g6.2.2.2.2.2.2.1
      exact ⟨by rw [up_n (by omega)]; exact q1, q2, q3, by rw [up_m (by omega)]; exact q4, q5, q6, by rw [up_m (by omega)]; exact q7, by rw [up_m (by omega)]; exact q8⟩
  · have h10 : ¬ (1 : Int32) = 0 := by decide
    rw [if_neg h10, if_neg h10]
    obtain ⟨s', cap', hs6', hs', hcap', hSt', hok'⟩ := g6.st hi
    have hss : s' = s := by
      have : n1 19 i = m 19 i := by rw [g8.1 19 (by omega) (by omega) (by omega) (by omega) (by omega), up_n (by omega)]
      rw [this, hs, nI_eq (by omega) (by omega)] at hs'
      exact hs'.symm
    subst hss
    have hct := ct_le (P := rsel (n1 48) none 0 0 (RR s')) (n := (RR s').length)
    have hR12 := hSt'.2.2.2.1.2.1
    obtain ⟨N2, n2, A', cut, sc2, k1, k2, k3, k4, k5, k6, k7, k8, k9, k10, k11, k12, k13⟩ := g6.rec (co := none) (a := 0) (b := 0) (b0 := false) (B := (RR s').length) (A := []) hfu hi hs6 hcap' hSt' hok' (fun c hc => by cases hc) (Nat.le_refl _) (by omega) hR12 ho hbit rc1 rs1 (by simp; exact hct) m71
    have em1 : oI none = -1 := rfl
    have e0 : nI 0 = (0 : Int32) := rfl
    rw [em1, e0] at k1 k2
    rw [k1, k2, bm_some, bd_some]
    have hA : okR A' := fun r hr => by
      rcases k13 r hr with hh | hh
      · simp at hh
      · exact hok r hh
    simp only [Bool.false_or] at k8 ⊢
    cases cut with
    | true =>
      have e1 : (bI (!true)) = 0 := rfl
      have e2 : n2 0 62 = 1 := k9
      rw [e1, if_pos rfl, e2, if_neg h10, show isb 1 = true from rfl, grd_true]
      exact ⟨N2, n2, A', true, t1, sc2, rfl, rfl, by omega, by omega, k7, k4, k5, hA, k8, k10.sf.trans (g7.sf.trans fs1), k11.sf.trans (g8.sf.trans fs2), (k12.trans fr3).trans fs3⟩
    | false =>
      have e1 : (bI (!false)) = 1 := rfl
      have e2 : n2 0 62 = 0 := k9
      rw [e1, if_neg h10, e2, if_pos rfl]
      obtain ⟨w1, w2, w3, w4, w5, w6, w7, w8⟩ := (id k7)
      have hs2' : n2 19 i = nI s' := by rw [k11.1 19 (by omega) (by omega) (by omega) (by omega)]; exact hs'
      rw [sentOf_eq hfu w2 w3 hi3, bd_some]
      obtain ⟨L, l1, l2, l3⟩ := w1.1.2.2.2
      obtain ⟨n3, r1, r2, r3, r4⟩ := rem_ok (t := t1) hfu l2 w3 hi3 hs2' hs6 k5 w1.1.1.2.1
      rw [r1, bd_some]
      have fD3 : DS n3 n2 := ⟨fun a h1 h2 => r3 a (by omega) (by omega), fun j h1 h2 => by
        by_cases hj : j = 39
        · omega
        · exact r4 j hj⟩
      have w3' := w3.cg fD3
      rw [manySent_eq hfu w3' hi3, bd_some, fD3.cs]
      have hz59 := w4.1
      have hctb := ct_le (P := snt n2 i) (n := nC)
      have hcb := w3.2.2.1.2
      have c0 : (nI (ct (snt n2 i) nC) = 0) = (ct (snt n2 i) nC = 0) := propext (by rw [lit, nI_eq (by omega) (by omega)])
      have hn19 : n3 19 i = nI s' := by rw [r3 19 (by omega) (by omega)]; exact hs2'
      have hn43 : n3 43 i = nI A'.length := by rw [r3 43 (by omega) (by omega)]; exact k5.1
      have hA12 := k5.2.1
      have h62 : n3 0 62 = 0 := by rw [r4 62 (by omega)]; exact e2
      have hci : (nI i).toNatClampNeg = i := nI_clamp (by omega)
      have hcs : (nI s').toNatClampNeg = s' := nI_clamp (by omega)
      -- the size that is believed now
      obtain ⟨N3, hN3, hZ3, hfN3⟩ : ∃ N3 : Mem, N3 = (if ct (snt n2 i) nC = 0 then up N2 59 s' (nI A'.length) else N2) ∧ N3 59 = (if ct (snt n2 i) nC = 0 then upd (n2 18) s' (nI A'.length) else n2 18) ∧ ∀ a, a ≠ 59 → N3 a = N2 a := by
        refine ⟨_, rfl, ?_, fun a ha => ?_⟩
        · split
          · rw [up_r, hz59]
          · exact hz59
        · split
          · rw [up_n ha]
          · rfl
      have hec3 : EC N3 L := l1.cg (fun a h1 h2 h3 h4 => hfN3 a (by omega))
      have hD3 : DR N3 n2 := w2.cg (fun a h1 h2 => hfN3 a (by omega)) .rfl
      obtain ⟨w, hw1, hw2⟩ := (w1.2.2.1 s' hs6).2.2.2.2
      obtain ⟨N4, v1, v2, v3⟩ := keep_ok (t := t1) (x := N3 60 s') hfu hec3 hD3 w3 hi3 hs2' hs6 (k4.cg (by rw [hfN3 _ (by omega)]) (by rw [hfN3 _ (by omega)]) (by rw [hfN3 _ (by omega)])) (by omega) (by rw [hfN3 1 (by omega)]; exact w1.1.1.1)
      have hx : N3 60 s' = n2 5 s' := by rw [hfN3 60 (by omega), w1.2.2.2.2.1]
      rw [hx] at v1 v2
      have hE1 : E1 t1 u (s', nI t1, n2 5 s', none, none, cnd n2 i nC, A') := ⟨⟨t1, Nat.le_refl _, rfl⟩, ⟨w, hw1, hw2⟩, fun d hd => (by cases hd), fun d hd => (by cases hd), hA⟩
      have eC4 : jn (fun (M_17 : Mem) => nm (95 + 1 + 3 * (nI i).toNatClampNeg) (fun a_18 => grd (inb (nI s') 6) (bd (f_X3_keep fu (nI i) a_18 (M_17 60 (nI s').toNatClampNeg) M_17) (fun M_21 => some M_21)))) (fun k102_16 => (if nI (ct (snt n2 i) nC) = 0 then nm (95 + 1 + 3 * (nI i).toNatClampNeg) (fun a_23 => grd (inb (nI s') 6) (nm (up N2 59 (nI s').toNatClampNeg (N2 a_23 2)) (fun M_25 => k102_16 M_25))) else k102_16 N2)) = some N4 := by
        have e7 : bd (f_X3_keep fu (nI i) (96 + 3 * i) (N3 60 s') N3) (fun M_21 => some M_21) = some N4 := by
          rw [hx, v1, bd_some]
        rw [hci, hcs, jn_d]
        simp only [c0]
        by_cases hc0 : ct (snt n2 i) nC = 0
        · rw [if_pos hc0, nm_d, inb_nI hs6 (by omega), grd_true, nm_d, show 95 + 1 + 3 * i = 96 + 3 * i by omega, k4.1]
          rw [if_pos hc0] at hN3
          rw [← hN3, nm_d, grd_true]
          exact e7
        · rw [if_neg hc0]
          rw [if_neg hc0] at hN3
          rw [← hN3, nm_d, inb_nI hs6 (by omega), grd_true, show 95 + 1 + 3 * i = 96 + 3 * i by omega]
          exact e7
      have eM4 : jn (fun (v_16 : Int32) => grd (inb (n3 19 (nI i).toNatClampNeg) 6) (nm (up n3 18 (n3 19 (nI i).toNatClampNeg).toNatClampNeg v_16) (fun M_18 => grd (isb (M_18 0 62)) (some ((M_18 0 62), M_18))))) (fun k83_15 => (if nI (ct (snt n2 i) nC) = 0 then k83_15 (n3 43 (nI i).toNatClampNeg) else grd (inb (n3 19 (nI i).toNatClampNeg) 6) (k83_15 (n3 18 (n3 19 (nI i).toNatClampNeg).toNatClampNeg)))) = some (0, up n3 18 s' (if ct (snt n2 i) nC = 0 then nI A'.length else n3 18 s')) := by
        rw [hci, hn19, hcs, inb_nI hs6 (by omega), hn43, jn_d]
        simp only [c0, grd_true, nm_d]
        by_cases hc0 : ct (snt n2 i) nC = 0
        · rw [if_pos hc0, if_pos hc0, up_n (by omega), h62]
          rfl
        · rw [if_neg hc0, if_neg hc0, up_n (by omega), h62]
          rfl
      rw [eC4, eM4]
      have n18 : n3 18 = n2 18 := r3 18 (by omega) (by omega)
      have hk4 : KR N4 (up n3 18 s' (if ct (snt n2 i) nC = 0 then nI A'.length else n3 18 s')) t1 u := by
        refine w1.1.ent v2 (r2.cg (by rw [up_n (by omega)]) (fun a h1 h2 => by rw [up_n (by omega)])) (l3.snoc hE1) (fun a ha => by rw [v3 a (by omega), hfN3 a (by omega)]) ?_ ?_ (fun a h1 h2 => by rw [up_n (by omega)]; exact r3 a (by omega) (by omega))
        · rw [up_n (by omega)]; exact r4 7 (by omega)
        · rw [up_n (by omega)]; exact r4 8 (by omega)
      have fN4 : ∀ a, 47 < a → a ≠ 59 → N4 a = N2 a := fun a h1 h2 => by rw [v3 a (by omega), hfN3 a h2]
      have fn4 : ∀ a, 0 < a → a < 30 ∨ 41 < a → a ≠ 18 → (up n3 18 s' (if ct (snt n2 i) nC = 0 then nI A'.length else n3 18 s')) a = n2 a := fun a h1 h2 h3 => by rw [up_n h3]; exact r3 a h1 h2
      have fn40 : ∀ j, j ≠ 39 → (up n3 18 s' (if ct (snt n2 i) nC = 0 then nI A'.length else n3 18 s')) 0 j = n2 0 j := fun j hj => by rw [up_n (by omega)]; exact r4 j hj
      have hz4 : ZR N4 (up n3 18 s' (if ct (snt n2 i) nC = 0 then nI A'.length else n3 18 s')) := by
        refine ⟨?_, fun x hx6 => ?_⟩
        · rw [v3 59 (by omega), hZ3, up_r, n18]
          by_cases hc0 : ct (snt n2 i) nC = 0
          · rw [if_pos hc0, if_pos hc0]
          · rw [if_neg hc0, if_neg hc0, upd_self rfl]
        · by_cases hxs : x = s'
          · subst hxs
            rw [up_s]
            by_cases hc0 : ct (snt n2 i) nC = 0
            · rw [if_pos hc0]; exact ⟨A'.length, hA12, rfl⟩
            · rw [if_neg hc0, n18]; exact w4.2 x hx6
          · rw [up_m hxs, n18]; exact w4.2 x hx6
      refine ⟨N4, _, A', false, t1, sc2, rfl, rfl, by omega, by omega, ?_, k4.cg (by rw [fN4 _ (by omega) (by omega)]) (by rw [fN4 _ (by omega) (by omega)]) (by rw [fN4 _ (by omega) (by omega)]), k5.cg (by rw [fn4 43 (by omega) (by omega) (by omega)]) (by rw [fn4 44 (by omega) (by omega) (by omega)]) (by rw [fn4 45 (by omega) (by omega) (by omega)]), hA, by rw [fN4 90 (by omega) (by omega)]; exact k8, FCs.trans ⟨fun a h1 _ _ _ _ => fN4 a (by omega) (by omega), fun j _ _ _ _ => by rw [fN4 90 (by omega) (by omega)]⟩ (k10.sf.trans (g7.sf.trans fs1)), FMs.trans ⟨fun a ha => fn4 a (by omega) (by omega) (by omega), fun j _ h39 _ _ _ _ _ => fn40 j h39⟩ (k11.sf.trans (g8.sf.trans fs2)), RSo.trans (fun i' A'' z1 z2 z3 => z3.cg (by rw [fn4 43 (by omega) (by omega) (by omega)]) (by rw [fn4 44 (by omega) (by omega) (by omega)]) (by rw [fn4 45 (by omega) (by omega) (by omega)])) ((k12.trans fr3).trans fs3)⟩
      refine k7.of hk4 (Nat.le_refl _) ?_ (fun a ha => fN4 a (by omega) (by omega)) (fun a ha => fn4 a (by omega) (by omega) (by omega)) (fun j hj => fn40 j (by omega)) hz4
      obtain ⟨q1, q2, q3, q4, q5, q6, q7, q8⟩ := w7
      refine ⟨by rw [fN4 120 (by omega) (by omega)]; exact q1, by rw [fn40 52 (by omega)]; exact q2, by rw [fn40 54 (by omega)]; exact q3, by rw [fN4 90 (by omega) (by omega)]; exact q4, by rw [fn40 80 (by omega)]; exact q5, by rw [fn40 55 (by omega)]; exact q6, by rw [fN4 90 (by omega) (by omega), fn40 81 (by omega)]; exact q7, by rw [fN4 90 (by omega) (by omega), fn40 82 (by omega)]; exact q8⟩
end Scan
