/-! ===== a match is taken into its group: both ===== -/
def GS (M : Mem) (a0 : Nat) (m : Mem) (V : List Int32) : Prop := ∃ Gc Gm, CG M a0 Gc ∧ MG m Gm ∧ (∀ P : Grp → Bool, cpt P Gc = cpt P Gm) ∧ GSO Gc ∧ KU Gm ∧ ∀ e ∈ Gm, okc e.1 ∧ e.1 ∈ V
def keyP (G : List Grp) (v : Int32) (x : Nat) : Bool := match G[x]? with | some e => decide (e.1 = v) | none => false
section Group2
variable {fu a0 q i j x nS nL nC nO : Nat} {M m N n : Mem} {G Gc Gm : List Grp} {e : Grp} {v w last : Int32} {F : Nat → List Row} {R : Nat → Row} {V : List Int32}
theorem KU.tail (h : KU (e :: G)) : KU G := fun i j e1 e2 h1 h2 h3 => by
  have := h (i + 1) (j + 1) e1 e2 (by simpa using h1) (by simpa using h2) h3
  omega
theorem pig : ∀ (G : List Grp) (V : List Int32), KU G → (∀ e ∈ G, e.1 ∈ V) → G.length ≤ V.length := by
  intro G
  induction G with
  | nil => intro V _ _; simp
  | cons e G ih =>
    intro V h1 h2
    have hm := h2 e (List.mem_cons_self ..)
    have h3 := ih (V.erase e.1) h1.tail (fun e' he' => by
      have hne : e'.1 ≠ e.1 := fun hq => by
        obtain ⟨k, hk⟩ := List.mem_iff_getElem?.mp he'
        have := h1 (k + 1) 0 e' e (by simpa using hk) (by simp) hq
        omega
      exact (List.mem_erase_of_ne hne).mpr (h2 e' (List.mem_cons_of_mem _ he')))
    rw [List.length_erase_of_mem hm] at h3
    have : 0 < V.length := List.length_pos_of_mem hm
    simp only [List.length_cons]
    omega
theorem KU.set (h : KU G) (he : G[i]? = some e) {e' : Grp} (hk : e'.1 = e.1) : KU (G.set i e') := by
  intro x y a b ha hb hab
  rw [List.getElem?_set] at ha hb
  have hl := gl_lt he
  split at ha
  · subst i
    cases ha
    split at hb
    · assumption
    · exact h x y e b he hb (by rw [← hk]; exact hab)
  · split at hb
    · subst i
      cases hb
      exact h x y a e ha he (by rw [← hk]; exact hab)
    · exact h x y a b ha hb hab
theorem KU.snoc (h : KU G) (hn : ∀ a ∈ G, a.1 ≠ e.1) : KU (G ++ [e]) := by
  intro x y a b ha hb hab
  have hx := gl_lt ha
  have hy := gl_lt hb
  simp at hx hy
  by_cases h1 : x < G.length
  · rw [List.getElem?_append_left h1] at ha
    by_cases h2 : y < G.length
    · rw [List.getElem?_append_left h2] at hb; exact h x y a b ha hb hab
    · have : y = G.length := by omega
      subst this
      rw [List.getElem?_concat_length] at hb
      cases hb
      exact absurd hab (hn a (List.mem_of_getElem? ha))
  · have : x = G.length := by omega
    subst this
    rw [List.getElem?_concat_length] at ha
    cases ha
    by_cases h2 : y < G.length
    · rw [List.getElem?_append_left h2] at hb; exact absurd hab.symm (hn b (List.mem_of_getElem? hb))
    · omega
theorem GSO.set (h : GSO G) (he : G[i]? = some e) {e' : Grp} (hk : e'.1 = e.1) : GSO (G.set i e') := by
  intro x y a b ha hb hxy
  rw [List.getElem?_set] at ha hb
  have hl := gl_lt he
  split at ha
  · subst i
    cases ha
    split at hb
    · omega
    · rw [hk]
      exact h x y e b he hb hxy
  · split at hb
    · subst i
      cases hb
      rw [hk]
      exact h x y a e ha he hxy
    · exact h x y a b ha hb hxy
theorem CG_set (h : CG M a0 G) (he : G[q]? = some e) {e' : Grp} (hk : e'.1 = e.1) (hN : N a0 5 = M a0 5) (h1 : N (a0 + 1) (3 * q + 1) = e'.2.1) (h2 : N (a0 + 1) (3 * q + 2) = e'.2.2) (h3 : ∀ x, x ≠ 3 * q + 1 → x ≠ 3 * q + 2 → N (a0 + 1) x = M (a0 + 1) x) : CG N a0 (G.set q e') := by
  refine ⟨by rw [hN, List.length_set]; exact h.1, fun x a ha => ?_⟩
  rw [List.getElem?_set] at ha
  split at ha
  · subst q
    rw [if_pos (gl_lt he)] at ha
    cases ha
    refine ⟨?_, h1, h2⟩
    rw [h3 _ (by omega) (by omega), (h.2 x e he).1, hk]
  · obtain ⟨c1, c2, c3⟩ := h.2 x a ha
    exact ⟨by rw [h3 _ (by omega) (by omega)]; exact c1, by rw [h3 _ (by omega) (by omega)]; exact c2, by rw [h3 _ (by omega) (by omega)]; exact c3⟩
theorem takeInto_ok (hfu : 5000 ≤ fu) (hC : CG M a0 G) (hS : GSO G) (hl : G.length ≤ 12) (hok : ∀ e ∈ G, okc e.1) (hv : okc v) : ∃ N G', f_X0_takeIntoGroup fu a0 v last M = some N ∧ CG N a0 G' ∧ GSO G' ∧ ((∃ q e, G[q]? = some e ∧ e.1 = v ∧ G' = G.set q (gadd e last)) ∨ (∃ q, (∀ e ∈ G, e.1 ≠ v) ∧ q ≤ G.length ∧ G' = G.insertIdx q (gadd (v, 0, 0) last))) ∧ (∀ a, a ≠ a0 → a ≠ a0 + 1 → N a = M a) ∧ (∀ j, j ≠ 5 → N a0 j = M a0 j) := by
  obtain ⟨q, N, G', e, g1, g2, g3, g4, g5, g6, g7, g8, g9⟩ := groupOf_ok (fu := fu) hfu hC hS hl hok hv
  have hq13 : q < 13 := by
    rcases g7 with rfl | ⟨_, h1, _, _⟩
    · omega
    · omega
  obtain ⟨c1, c2, c3⟩ := g2.2 q e g5
  have i3 : nI q * 3 = nI (3 * q) := by rw [lit, pk_mul, Nat.mul_comm]
  have i1 : nI (3 * q) + 1 = nI (3 * q + 1) := nI_add _ 1
  have i2 : nI (3 * q) + 2 = nI (3 * q + 2) := nI_add _ 2
  have k1 : (nI (3 * q + 1)).toNatClampNeg = 3 * q + 1 := nI_clamp (by omega)
  have k2 : (nI (3 * q + 2)).toNatClampNeg = 3 * q + 2 := nI_clamp (by omega)
  have hgk : (gadd e last).1 = e.1 := rfl
  have hres : ∃ P, f_X0_takeIntoGroup fu a0 v last M = some P ∧ CG P a0 (G'.set q (gadd e last)) ∧ (∀ a, a ≠ a0 + 1 → P a = N a) := by
    have e0 : f_X0_takeIntoGroup fu a0 v last M = (if f_X10_isNumber last = 0 then some (up N (a0 + 1) (3 * q + 1) (e.2.1 + 1)) else some (up (up N (a0 + 1) (3 * q + 1) (e.2.1 + 1)) (a0 + 1) (3 * q + 2) (e.2.2 + last))) := by
      simp only [f_X0_takeIntoGroup, g1, bm_some, nm_d, i3, i1, i2, inb_nI (show 3 * q + 1 < 120 by omega) (show 120 < 2 ^ 31 by omega), inb_nI (show 3 * q + 2 < 120 by omega) (show 120 < 2 ^ 31 by omega), grd_true, k1, k2, c2]
      rw [up_m (by omega), c3]
    rw [e0]
    by_cases hn : f_X10_isNumber last = 0
    · rw [if_pos hn]
      refine ⟨_, rfl, CG_set g2 g5 hgk (by rw [up_n (by omega)]) up_s ?_ (fun x z1 z2 => up_m z1), fun a ha => up_n ha⟩
      have hn' : f_X10_isNumber last = nI 0 := hn
      have : (gadd e last).2.2 = e.2.2 + 0 := by simp only [gadd, hn', ↓reduceIte]
      rw [up_m (by omega), c3, this]
      grind
    · rw [if_neg hn]
      refine ⟨_, rfl, CG_set g2 g5 hgk (by rw [up_n (by omega), up_n (by omega)]) (by rw [up_m (by omega), up_s]; rfl) ?_ (fun x z1 z2 => by rw [up_m z2, up_m z1]), fun a ha => by rw [up_n ha, up_n ha]⟩
      have hn' : ¬ f_X10_isNumber last = nI 0 := hn
      have : (gadd e last).2.2 = e.2.2 + last := by simp only [gadd, hn', ↓reduceIte]
      rw [up_s, this]
  obtain ⟨P, p1, p2, p3⟩ := hres
  refine ⟨P, _, p1, p2, g3.set g5 hgk, ?_, fun a z1 z2 => by rw [p3 a z2, g8 a z1 z2], fun j hj => by rw [p3 a0 (by omega), g9 j hj]⟩
  rcases g7 with rfl | ⟨h1, h2, rfl, rfl⟩
  · exact Or.inl ⟨q, e, g5, g6, rfl⟩
  · refine Or.inr ⟨q, h1, h2, ?_⟩
    apply List.ext_getElem?
    intro x
    rw [List.getElem?_set, List.getElem?_insertIdx, List.getElem?_insertIdx]
    by_cases hx : q = x
    · subst hx
      rw [if_pos rfl, if_pos g4, if_neg (by omega), if_pos rfl, if_pos h2]
    · rw [if_neg hx]
      by_cases hxq : x < q
      · rw [if_pos hxq, if_pos hxq]
      · rw [if_neg hxq, if_neg hxq, if_neg (by omega), if_neg (by omega)]
theorem find49 {kk : Int32 → Option Mem} (hM : MG m G) (hl : G.length ≤ 12) : ∀ d x n, x + d = G.length → d < n → f_X11_addsToGroup_L49 fu m v kk n (oI (lst (keyP G v) x)) (nI x) = kk (oI (lst (keyP G v) G.length)) := by
  intro d
  induction d with
  | zero =>
    intro x n h1 h2
    obtain ⟨n, rfl⟩ := fu1 h2
    obtain rfl : x = G.length := by omega
    simp (disch := omega) only [f_X11_addsToGroup_L49, hM.1, lit, nI_add, pk_mul, pk_sub, nI_clamp, inb_nI, nI_leI, nI_ltI, nI_eq, add_m1, ↓reduceIte, grd_true, nm_d, jn_d, bd_some, bm_some, om_some, om_none, Nat.le_refl]
  | succ d ih =>
    intro x n h1 h2
    obtain ⟨n, rfl⟩ := fu1 h2
    have h3 : ¬ G.length ≤ x := by omega
    obtain ⟨e, he⟩ := gl_ex (L := G) (i := x) (by omega)
    have e1 := (hM.2 x e he).1
    have ih' := ih (x + 1) n (by omega) (by omega)
    have hk : keyP G v x = decide (e.1 = v) := by simp [keyP, he]
    simp only [lst, hk, decide_eq_true_eq] at ih'
    simp (disch := omega) only [f_X11_addsToGroup_L49, hM.1, lit, nI_add, pk_mul, pk_sub, nI_clamp, inb_nI, nI_leI, nI_ltI, nI_eq, add_m1, ↓reduceIte, grd_true, nm_d, jn_d, bd_some, bm_some, om_some, om_none, h3, e1]
    by_cases hev : e.1 = v
    · rw [if_pos hev] at ih' ⊢
      exact ih'
    · rw [if_neg hev] at ih' ⊢
      exact ih'
theorem lst_none {P : Nat → Bool} {n : Nat} (h : lst P n = none) : ∀ k, k < n → P k = false := by
  induction n with
  | zero => intro k hk; omega
  | succ n ih =>
    simp only [lst] at h
    split at h
    · cases h
    · intro k hk
      by_cases hkn : k = n
      · subst hkn; rename_i hh; simpa using hh
      · exact ih h k (by omega)
theorem match1 (hfu : 5000 ≤ fu) (hD : DR M m) (hG : DG m nS nL nC nO) (ha : 89 < a0) (h38 : ¬ m 0 38 = 0) (hO : 0 < nO) (hPC : ∀ j, j < nS → PC M a0 F j (R j)) (hPM : ∀ j, j < nS → PM m F j (R j)) (hok : ∀ j, j < nS → ∀ c, c < 4 → okc (cel (R j) c)) (hV : V.length ≤ 12) (hvV : ov m R 0 ∈ V) (hS : GS M a0 m V) : ∃ N n, f_X0_takeMatch fu a0 M = some N ∧ f_X11_addsToGroup fu m = some n ∧ GS N a0 n V ∧ (∀ a, a ≠ a0 → a ≠ a0 + 1 → N a = M a) ∧ (∀ j, j ≠ 5 → N a0 j = M a0 j) ∧ (∀ a, a ≠ 0 → a ≠ 53 → a ≠ 54 → a ≠ 55 → n a = m a) ∧ ∀ j, j ≠ 71 → n 0 j = m 0 j := by
  obtain ⟨Gc, Gm, c1, c2, c3, c4, c5, c6⟩ := hS
  have hlen : Gc.length = Gm.length := by rw [← cpt_len, ← cpt_len]; exact c3 _
  have hl12 := pig Gm V c5 (fun e he => (c6 e he).2)
  have hS3 := hG.1.2
  have hnO := hG.2.2.2.1
  obtain ⟨a, ca, q1, q2, q3, q4, q5⟩ := ov_get hG (o := 0) hO
  obtain ⟨b, cb, r1, r2, r3, r4, r5⟩ := ov_get hG (o := nO - 1) (by omega)
  have hv : okc (ov m R 0) := by rw [q5]; exact hok a q3 ca q4
  have hl : okc (ov m R (nO - 1)) := by rw [r5]; exact hok b r3 cb r4
  obtain ⟨N, G', t1, t2, t3, t4, t5, t6⟩ := takeInto_ok (fu := fu) (v := ov m R 0) (last := ov m R (nO - 1)) hfu c1 c4 (by omega) (fun e he => (c6 e ((pe_mem c3).mp he)).1) hv
  have h14 : ¬ M 80 14 = 0 := by rw [hD.1.2.2.2.2.2]; exact h38
  have i0 : (nI (nO - 1)).toNatClampNeg = nO - 1 := nI_clamp (by omega)
  have es : nI nO - 1 = nI (nO - 1) := pk_sub (b := 1) (by omega)
  have eC : f_X0_takeMatch fu a0 M = some N := by
    have e1 := picked_eq (fu := fu) (c := ca) (show a < 3 by omega) (hPC a q3) q4
    have e2 := picked_eq (fu := fu) (c := cb) (show b < 3 by omega) (hPC b r3) r4
    rw [← q5 R] at e1
    rw [← r5 R] at e2
    simp only [f_X0_takeMatch, if_neg h14, hD.1.2.2.2.1, hnO.1, es, nm_d, hD.2.1.2.2.2.2.2.1, hD.2.1.2.2.2.2.2.2, q1, q2, e1, bd_some, inb_nI (show nO - 1 < 3 by omega) (show 3 < 2 ^ 31 by omega), grd_true, i0, r1, r2, e2, t1]
  have e1 := cellM_eq (fu := fu) (c := ca) (show a < 3 by omega) (hPM a q3) q4
  have e2 := cellM_eq (fu := fu) (c := cb) (show b < 3 by omega) (hPM b r3) r4
  rw [← q5 R] at e1
  rw [← r5 R] at e2
  have f49 := fun kk => find49 (fu := fu) (v := ov m R 0) (kk := kk) c2 (by omega) Gm.length 0 fu (by omega) (by omega)
  have eo0 : oI (lst (keyP Gm (ov m R 0)) 0) = -1 := rfl
  rw [eo0] at f49
  have eM : ∀ (P : Mem) (g : Nat), g < 12 → (P 54 g) + 1 = (P 54 g) + 1 → nm (up P 54 g ((P 54 g) + 1)) (fun M_12 => nm ((if (f_X11_isNumber (ov m R (nO - 1))) = 0 then 0 else (ov m R (nO - 1))) : Int32) (fun v_14 => nm (up M_12 55 g ((M_12 55 g) + v_14)) (fun M_15 => some M_15))) = some (up (up P 54 g (P 54 g + 1)) 55 g (P 55 g + (if f_X10_isNumber (ov m R (nO - 1)) = nI 0 then 0 else ov m R (nO - 1)))) := by
    intro P g _ _
    rw [nm_d, nm_d, nm_d, up_n (by omega), st_num hl]
    rfl
  have eM0 : f_X11_addsToGroup fu m = (if oI (lst (keyP Gm (ov m R 0)) Gm.length) = -1 then (nm (m 0 71) (fun x3_17 => grd (inb x3_17 12) (nm (up m 53 x3_17.toNatClampNeg (ov m R 0)) (fun M_19 => nm (up M_19 54 x3_17.toNatClampNeg 0) (fun M_20 => nm (up M_20 55 x3_17.toNatClampNeg 0) (fun M_21 => nm (up M_21 0 71 ((M_21 0 71) + 1)) (fun M_22 => grd (inb x3_17 12) (nm (up M_22 54 x3_17.toNatClampNeg ((M_22 54 x3_17.toNatClampNeg) + 1)) (fun M_12 => nm ((if (f_X11_isNumber (ov m R (nO - 1))) = 0 then 0 else (ov m R (nO - 1))) : Int32) (fun v_14 => nm (up M_12 55 x3_17.toNatClampNeg ((M_12 55 x3_17.toNatClampNeg) + v_14)) (fun M_15 => some M_15))))))))))) else grd (inb (oI (lst (keyP Gm (ov m R 0)) Gm.length)) 12) (nm (up m 54 (oI (lst (keyP Gm (ov m R 0)) Gm.length)).toNatClampNeg ((m 54 (oI (lst (keyP Gm (ov m R 0)) Gm.length)).toNatClampNeg) + 1)) (fun M_12 => nm ((if (f_X11_isNumber (ov m R (nO - 1))) = 0 then 0 else (ov m R (nO - 1))) : Int32) (fun v_14 => nm (up M_12 55 (oI (lst (keyP Gm (ov m R 0)) Gm.length)).toNatClampNeg ((M_12 55 (oI (lst (keyP Gm (ov m R 0)) Gm.length)).toNatClampNeg) + v_14)) (fun M_15 => some M_15))))) := by
    have f49' := f49 (fun (x3_7 : Int32) => jn (fun (x3_9 : Int32) (M_10 : Mem) => grd (inb x3_9 12) (nm (up M_10 54 x3_9.toNatClampNeg ((M_10 54 x3_9.toNatClampNeg) + 1)) (fun M_12 => nm ((if (f_X11_isNumber (ov m R (nO - 1))) = 0 then 0 else (ov m R (nO - 1))) : Int32) (fun v_14 => nm (up M_12 55 x3_9.toNatClampNeg ((M_12 55 x3_9.toNatClampNeg) + v_14)) (fun M_15 => some M_15))))) (fun k123_8 => (if x3_7 = (-1) then nm (m 0 71) (fun x3_17 => grd (inb x3_17 12) (nm (up m 53 x3_17.toNatClampNeg (ov m R 0)) (fun M_19 => nm (up M_19 54 x3_17.toNatClampNeg 0) (fun M_20 => nm (up M_20 55 x3_17.toNatClampNeg 0) (fun M_21 => nm (up M_21 0 71 ((M_21 0 71) + 1)) (fun M_22 => k123_8 x3_17 M_22)))))) else k123_8 x3_7 m)))
    refine Eq.trans ?_ f49'
    simp only [f_X11_addsToGroup, q1, q2, e1, bd_some, hnO.1, es, inb_nI (show nO - 1 < 3 by omega) (show 3 < 2 ^ 31 by omega), grd_true, i0, r1, r2, e2, jn_d]
    rfl
  cases hlst : lst (keyP Gm (ov m R 0)) Gm.length with
  | none =>
    have hnone := lst_none hlst
    have hne : ∀ e ∈ Gm, e.1 ≠ ov m R 0 := fun e he h => by
      obtain ⟨k, hk⟩ := List.mem_iff_getElem?.mp he
      have := hnone k (gl_lt hk)
      simp [keyP, hk, h] at this
    have hKU : KU (Gm ++ [gadd (ov m R 0, 0, 0) (ov m R (nO - 1))]) := c5.snoc (fun a ha => hne a ha)
    have hl1 := pig _ V hKU (fun e he => by
      rcases List.mem_append.mp he with h | h
      · exact (c6 e h).2
      · rw [List.mem_singleton.mp h]; exact hvV)
    simp at hl1
    have hg12 : Gm.length < 12 := by omega
    rw [hlst] at eM0
    have eo : oI (none : Option Nat) = -1 := rfl
    rw [eo, if_pos rfl, c2.1, nm_d, inb_nI hg12 (by omega), grd_true, nI_clamp (by omega), nm_d, nm_d, nm_d, nm_d, grd_true, eM _ Gm.length hg12 rfl] at eM0
    refine ⟨N, _, eC, eM0, ⟨G', Gm ++ [gadd (ov m R 0, 0, 0) (ov m R (nO - 1))], t2, ⟨?_, fun x e he => ?_⟩, fun P => ?_, t3, hKU, fun e he => ?_⟩, t5, t6, fun a z1 z2 z3 z4 => ?_, fun j hj => ?_⟩
    · rw [up_n (by omega), up_n (by omega), up_s, up_n (by omega), up_n (by omega), up_n (by omega), c2.1, List.length_append]
      exact nI_add _ 1
    · by_cases hx : x = Gm.length
      · subst hx
        rw [List.getElem?_concat_length] at he
        cases he
        refine ⟨?_, ?_, ?_⟩
        · simp (disch := omega) only [up_n, up_s]; rfl
        · simp (disch := omega) only [up_n, up_s]; rfl
        · simp (disch := omega) only [up_n, up_s]; rfl
      · have hxl := gl_lt he
        simp at hxl
        rw [List.getElem?_append_left (by omega)] at he
        obtain ⟨d1, d2, d3⟩ := c2.2 x e he
        refine ⟨?_, ?_, ?_⟩
        · simp (disch := omega) only [up_n, up_m]; exact d1
        · simp (disch := omega) only [up_n, up_m]; exact d2
        · simp (disch := omega) only [up_n, up_m]; exact d3
    · rw [cpt_app, ← c3 P]
      rcases t4 with ⟨q, e, w1, w2, w3⟩ | ⟨q, w1, w2, w3⟩
      · exact absurd w2 (hne e ((pe_mem c3).mp (List.mem_of_getElem? w1)))
      · rw [w3, cpt_ins w2]
        simp [cpt]
    · rcases List.mem_append.mp he with h | h
      · exact c6 e h
      · rw [List.mem_singleton.mp h]; exact ⟨hv, hvV⟩
    · simp (disch := omega) only [up_n]
    · simp (disch := omega) only [up_n, up_m]
  | some g =>
    obtain ⟨k1, k2⟩ := lst_lt hlst
    obtain ⟨e, he⟩ := gl_ex (L := Gm) (i := g) k1
    have hev : e.1 = ov m R 0 := by simpa [keyP, he] using k2
    rw [hlst] at eM0
    have eo : oI (some g) = nI g := rfl
    have ine : ¬ nI g = -1 := i_nm1 (by omega)
    rw [eo, if_neg ine, inb_nI (show g < 12 by omega) (by omega), grd_true, nI_clamp (by omega), eM m g (by omega) rfl] at eM0
    obtain ⟨d1, d2, d3⟩ := c2.2 g e he
    refine ⟨N, _, eC, eM0, ⟨G', Gm.set g (gadd e (ov m R (nO - 1))), t2, ⟨?_, fun x e' he' => ?_⟩, fun P => ?_, t3, c5.set he rfl, fun e' he' => ?_⟩, t5, t6, fun a z1 z2 z3 z4 => ?_, fun j hj => ?_⟩
    · rw [up_n (by omega), up_n (by omega), List.length_set]; exact c2.1
    · rw [List.getElem?_set] at he'
      by_cases hx : g = x
      · subst hx
        rw [if_pos rfl, if_pos k1] at he'
        cases he'
        refine ⟨?_, ?_, ?_⟩
        · simp (disch := omega) only [up_n]; exact d1
        · simp (disch := omega) only [up_n, up_s]; rw [d2]; rfl
        · simp (disch := omega) only [up_s]; rw [d3]; rfl
      · rw [if_neg hx] at he'
        obtain ⟨y1, y2, y3⟩ := c2.2 x e' he'
        refine ⟨?_, ?_, ?_⟩
        · simp (disch := omega) only [up_n]; exact y1
        · simp (disch := omega) only [up_n, up_m]; exact y2
        · simp (disch := omega) only [up_n, up_m]; exact y3
    · have hset := cpt_set (P := P) (e' := gadd e (ov m R (nO - 1))) he
      rcases t4 with ⟨q, e', w1, w2, w3⟩ | ⟨q, w1, w2, w3⟩
      · have hmem := (pe_mem c3).mp (List.mem_of_getElem? w1)
        obtain ⟨i', hi'⟩ := List.mem_iff_getElem?.mp hmem
        have hig := c5 i' g e' e hi' he (by rw [w2, hev])
        have hee : e' = e := by
          rw [hig] at hi'
          exact Option.some.inj (hi'.symm.trans he)
        rw [hee] at w1 w3
        have hset2 := cpt_set (P := P) (e' := gadd e (ov m R (nO - 1))) w1
        rw [w3]
        have := c3 P
        omega
      · exact absurd hev (w1 e ((pe_mem c3).mpr (List.mem_of_getElem? he)))
    · rcases List.mem_or_eq_of_mem_set he' with h | rfl
      · exact c6 e' h
      · exact ⟨by show okc e.1; rw [hev]; exact hv, by show e.1 ∈ V; rw [hev]; exact hvV⟩
    · simp (disch := omega) only [up_n]
    · simp (disch := omega) only [up_n]
end Group2
