/-! ===== a match is told: the law and the reference ===== -/
/-- a class's memory that tells what the law has made -/
def fkM (mm : Mem) (F : Nat → List Row) (made : Int32) (x : Nat → Int32) : Mem := fun a j =>
  if a = 90 then (if j = 5 then made else if j = 6 then (if mm 0 38 = 0 then mm 0 34 else 3) else 0) else if a = 91 then x j
  else if a < 90 then mcs mm 0 a j
  else if (a - 96) % 3 = 0 then nI (F ((a - 96) / 3)).length
  else if (a - 96) % 3 = 1 then (((F ((a - 96) / 3))[j]?).getD (0, 0, 0, 0, 0)).1
  else cel (((F ((a - 96) / 3))[j / 4]?).getD (0, 0, 0, 0, 0)) (j % 4)
def ERl (mm : Mem) (F : Nat → List Row) (made : Nat) (x : Nat → Int32) (m : Mem) (nS nL nC nO lim : Nat) (V : List Int32) : Prop := ER (fkM mm F (nI made) x) m 90 nS nL nC nO lim F V mm (fkM mm F 0 (fun _ => 0)) ∧ made ≤ 20
section Mat2
variable {fu a1 a2 a3 i j k l s c q x a b nS nL nC nO lim made : Nat} {M m N n mm P : Mem} {A F : Nat → List Row} {R : Nat → Row} {G : List Grp} {e : Grp} {v w last : Int32} {V : List Int32} {xx : Nat → Int32}
theorem fk_n {y : Int32} {x' : Nat → Int32} (h1 : a ≠ 90) (h2 : a ≠ 91) : fkM mm F v xx a = fkM mm F y x' a := by
  funext j
  simp only [fkM, h1, h2, if_false]
theorem fk_90 {y : Int32} {x' : Nat → Int32} (h1 : j ≠ 5) : fkM mm F v xx 90 j = fkM mm F y x' 90 j := by
  simp only [fkM, if_true, h1, if_false]
theorem fk_5 : fkM mm F v xx 90 5 = v := by simp [fkM]
theorem fk_91 : fkM mm F v xx 91 = xx := by funext j; simp [fkM]
theorem fk_d (h : a < 90) : fkM mm F v xx a = mcs mm 0 a := by
  funext j
  simp only [fkM, show a ≠ 90 by omega, show a ≠ 91 by omega, h, if_false, if_true]
theorem fk_RC (h : (F j).length ≤ 12) : RC (fkM mm F v xx) (90 + 5 + 1 + 3 * j) (F j) := by
  have e0 : ∀ y, fkM mm F v xx (90 + 5 + 1 + 3 * j) y = nI (F j).length := fun y => by
    simp only [fkM, show ¬ 90 + 5 + 1 + 3 * j = 90 by omega, show ¬ 90 + 5 + 1 + 3 * j = 91 by omega, show ¬ 90 + 5 + 1 + 3 * j < 90 by omega, show (90 + 5 + 1 + 3 * j - 96) % 3 = 0 by omega, show (90 + 5 + 1 + 3 * j - 96) / 3 = j by omega, if_true, if_false]
  have e1 : ∀ y, fkM mm F v xx (90 + 5 + 1 + 3 * j + 1) y = (((F j)[y]?).getD (0, 0, 0, 0, 0)).1 := fun y => by
    simp only [fkM, show ¬ 90 + 5 + 1 + 3 * j + 1 = 90 by omega, show ¬ 90 + 5 + 1 + 3 * j + 1 = 91 by omega, show ¬ 90 + 5 + 1 + 3 * j + 1 < 90 by omega, show (90 + 5 + 1 + 3 * j + 1 - 96) % 3 = 1 by omega, show (90 + 5 + 1 + 3 * j + 1 - 96) / 3 = j by omega, show ¬ (1 = 0) by omega, if_true, if_false]
  have e2 : ∀ y, fkM mm F v xx (90 + 5 + 1 + 3 * j + 2) y = cel (((F j)[y / 4]?).getD (0, 0, 0, 0, 0)) (y % 4) := fun y => by
    simp only [fkM, show ¬ 90 + 5 + 1 + 3 * j + 2 = 90 by omega, show ¬ 90 + 5 + 1 + 3 * j + 2 = 91 by omega, show ¬ 90 + 5 + 1 + 3 * j + 2 < 90 by omega, show (90 + 5 + 1 + 3 * j + 2 - 96) % 3 = 2 by omega, show (90 + 5 + 1 + 3 * j + 2 - 96) / 3 = j by omega, show ¬ (2 = 0) by omega, show ¬ (2 = 1) by omega, if_true, if_false]
  refine ⟨e0 2, h, fun y r hr => ⟨?_, fun c hc => ?_⟩⟩
  · rw [e1, hr]; rfl
  · rw [e2, show (4 * y + c) / 4 = y by omega, show (4 * y + c) % 4 = c by omega, hr]; rfl
theorem fk_DR (hG : DG m nS nL nC nO) (hD : DS m mm) : DR (fkM mm F v xx) m := by
  have h0 : DR (mcs mm 0) mm := by
    refine ⟨⟨rfl, rfl, rfl, rfl, rfl, rfl⟩, ⟨rfl, rfl, rfl, rfl, rfl, rfl, rfl⟩, fun l _ => ⟨?_, ?_, ?_, ?_⟩⟩
    · simp [mcs]
    · simp [mcs]
    · simp [mcs, show (2 * l + 1) % 2 = 1 by omega, show (2 * l + 1) / 2 = l by omega]
    · simp [mcs, show (2 * l + 1) % 2 = 1 by omega, show (2 * l + 1) / 2 = l by omega]
  exact h0.cg (fun a h1 h2 => fk_d (by omega)) hD
/-- cells of an answer's row -/
theorem lcopyL {K : Mem → Option (Int32 × Mem)} (hD : DL M m nS nL nC nO) (hG : DG m nS nL nC nO) (hP : LPk M a1 a2 nS A i j k R) (ha : a3 ≠ 146 ∧ a3 ≠ a1 ∧ a3 ≠ a2) (hk : made < 20) : ∀ d o n (N : Mem), o + d = nO → d < n → (∀ a, a ≠ a3 → N a = M a) → (∀ x, x < o → N a3 (3 * made + x) = ov m R x) → (∀ x, x < 3 * made → N a3 x = M a3 x) →
    ∃ N', f_L_match_L198 fu a1 a3 (nI i) (nI j) (nI made) (nI k) K n (nI o) N = K N' ∧ (∀ a, a ≠ a3 → N' a = M a) ∧ (∀ x, x < nO → N' a3 (3 * made + x) = ov m R x) ∧ (∀ x, x < 3 * made → N' a3 x = M a3 x) := by
  have hO3 := hG.2.2.2.1.2
  intro d
  induction d with
  | zero =>
    intro o n N h1 h2 h3 h4 h5
    obtain ⟨n, rfl⟩ := fu1 h2
    obtain rfl : o = nO := by omega
    refine ⟨N, ?_, h3, h4, h5⟩
    simp (disch := omega) only [f_L_match_L198, h3 146 (by omega), hD.1.2.2.2.1, nI_leI, Nat.le_refl, if_true]
  | succ d ih =>
    intro o n N h1 h2 h3 h4 h5
    obtain ⟨n, rfl⟩ := fu1 h2
    have h6 : ¬ nO ≤ o := by omega
    have hPN : LPk N a1 a2 nS A i j k R := fun s hs => ⟨(hP s hs).1.cg2 (h3 a2 (by omega)) (h3 a1 (by omega)), (hP s hs).2⟩
    have o0 := lout (fu := fu) (o := o) (hD.cg (h3 146 (by omega)) (fun _ _ _ => rfl) rfl rfl) hG hPN (by omega)
    have e1 : (3 : Int32) * nI made + nI o = nI (3 * made + o) := by rw [show (3 : Int32) = nI 3 from rfl, pk_mul, nI_add]
    simp (disch := omega) only [f_L_match_L198, h3 146 (by omega), hD.1.2.2.2.1, nI_leI, h6, if_false, o0, bd_some, e1, inb_nI, grd_true, nI_clamp, nm_d, nI_1]
    refine ih (o + 1) n _ (by omega) (by omega) (fun a ha => by rw [up_n ha, h3 a ha]) (fun x hx => ?_) (fun x hx => by rw [up_m (by omega)]; exact h5 x hx)
    by_cases hxo : x = o
    · subst hxo; rw [up_s]
    · rw [up_m (by omega)]; exact h4 x (by omega)
/-- a match, no groups: the reference -/
theorem radds0 (hfu : 5000 ≤ fu) (hG : DG m nS nL nC nO) (hlim : lim ≤ 40) (hl37 : m 0 37 = nI lim) (hPM : ∀ j, j < nS → PM m F j (R j)) (k1 : k ≤ lim) (k3 : m 0 68 = nI k) : ∃ n, f_X11_addsMatch fu m = some n ∧ (lim ≤ k → n = m) ∧ (k < lim → n 0 68 = nI (k + 1) ∧ (∀ o, o < nO → n 52 (3 * k + o) = ov m R o) ∧ (∀ x, x < 3 * k → n 52 x = m 52 x)) ∧ (∀ a, a ≠ 0 → a ≠ 52 → n a = m a) ∧ ∀ j, j ≠ 68 → n 0 j = m 0 j := by
  have hO := hG.2.2.2.1
  by_cases hk : lim ≤ k
  · have hkl : k = lim := by omega
    subst hkl
    have hle : nI k ≤ nI k := by rw [nI_leI (by omega) (by omega)]; exact Nat.le_refl _
    have eM : f_X11_addsMatch fu m = some m := by
      obtain ⟨f, rfl⟩ : ∃ f, fu = f + 1 := ⟨fu - 1, by omega⟩
      have e0 : up m 0 68 (nI k + 0) = m := up_self (by rw [k3]; exact (nI_add k 0).symm)
      have e1 : ∀ kk, f_X11_addsMatch_L2 (f + 1) kk (f + 1) 0 m = kk m := fun kk => by
        simp only [f_X11_addsMatch_L2, hl37, k3, hle, ↓reduceIte, ite_self]
      simp only [f_X11_addsMatch, jn_d, e1, nm_d, hl37, k3, hle, ↓reduceIte, e0]
    exact ⟨m, eM, fun _ => rfl, fun h => by omega, fun _ _ _ => rfl, fun _ _ => rfl⟩
  · have hnle : ¬ nI lim ≤ nI k := by rw [nI_leI (by omega) (by omega)]; exact hk
    obtain ⟨f2, v1, v2, v3⟩ := addsL (fu := fu) (k := k) (kk := fun (M_2 : Mem) => nm ((if (M_2 0 37) ≤ (M_2 0 68) then 0 else 1) : Int32) (fun v_4 => nm (up M_2 0 68 ((M_2 0 68) + v_4)) (fun M_5 => some M_5))) hG (by omega) hlim hl37 hPM k3 nO 0 fu (m 52) (by omega) (by omega) (fun x hx => by omega) (fun x _ => rfl)
    rw [row_self] at v1
    refine ⟨up (row m 52 f2) 0 68 (nI (k + 1)), ?_, fun h => absurd h hk, fun _ => ⟨up_s, fun o ho => by rw [up_n (by omega), row_s]; exact v2 o ho, fun x hx => by rw [up_n (by omega), row_s]; exact v3 x (by omega)⟩, fun a z1 z2 => by rw [up_n z1, row_n z2], fun j hj => by rw [up_m hj, row_n (by omega)]⟩
    have : f_X11_addsMatch fu m = f_X11_addsMatch_L2 fu (fun (M_2 : Mem) => nm ((if (M_2 0 37) ≤ (M_2 0 68) then 0 else 1) : Int32) (fun v_4 => nm (up M_2 0 68 ((M_2 0 68) + v_4)) (fun M_5 => some M_5))) fu (nI 0) m := rfl
    rw [this, v1, row_n (by omega), hl37, k3, if_neg hnle, nm_d, nI_1, nm_d]
/-- a match, groups: both -/
theorem lmatch1 (hfu : 5000 ≤ fu) (hD : DL M mm nS nL nC nO) (hDmm : DG mm nS nL nC nO) (hds : DS m mm) (hP : LPk M a1 a2 nS A i j k R) (hG : DG m nS nL nC nO) (h38 : ¬ m 0 38 = 0) (hO : 0 < nO) (hPM : ∀ j, j < nS → PM m F j (R j)) (hV : V.length ≤ 12) (hvV : ov m R 0 ∈ V) (hS : GS (fkM mm F (nI made) (M a3)) 90 m V) (hmade : made ≤ 20) : ∃ N n made', f_L_group fu a1 a3 (nI i) (nI j) (nI k) (nI made) M = some (nI made', N) ∧ f_X11_addsToGroup fu m = some n ∧ GS (fkM mm F (nI made') (N a3)) 90 n V ∧ made' ≤ 20 ∧ (∀ a, a ≠ a3 → N a = M a) ∧ (∀ a, a ≠ 0 → a ≠ 53 → a ≠ 54 → a ≠ 55 → n a = m a) ∧ ∀ j, j ≠ 71 → n 0 j = m 0 j := by
  obtain ⟨Gc, Gm, c1, c2, c3, c4, c5, c6⟩ := hS
  have hlen : Gc.length = Gm.length := by rw [← cpt_len, ← cpt_len]; exact c3 _
  have hl12 := pig Gm V c5 (fun e he => (c6 e he).2)
  have hS3 := hG.1.2
  have hnO := hG.2.2.2.1
  have hov : ov m R = ov mm R := by rw [ov_ds hds]
  obtain ⟨a, ca, q1, q2, q3, q4, q5⟩ := ov_get hG (o := 0) hO
  obtain ⟨b, cb, r1, r2, r3, r4, r5⟩ := ov_get hG (o := nO - 1) (by omega)
  have hv : okc (ov m R 0) := by rw [q5]; exact hP.okk q3 q4
  have hl : okc (ov m R (nO - 1)) := by rw [r5]; exact hP.okk r3 r4
  have hmg : nI made = nI Gc.length := by rw [← c1.1, fk_5]
  have hmg' : made = Gc.length := (nI_eq (by omega) (by omega)).mp hmg
  have c1x : CGx (nI Gc.length) (M a3) Gc := ⟨rfl, fun x e he => by
    have := c1.2 x e he
    rw [show (90 + 1) = 91 by omega, fk_91] at this
    exact this⟩
  obtain ⟨N, G', t1, t2, t3, t4, t5⟩ := lgroup_ok (fu := fu) (a3 := a3) hfu hD hDmm hP hO c1x c4 (by omega) (fun e he => (c6 e ((pe_mem c3).mp he)).1)
  rw [← hov] at t4
  have i0 : (nI (nO - 1)).toNatClampNeg = nO - 1 := nI_clamp (by omega)
  have es : nI nO - 1 = nI (nO - 1) := pk_sub (b := 1) (by omega)
  have hCG : CG (fkM mm F (nI G'.length) (N a3)) 90 G' := ⟨fk_5, fun x e he => by
    rw [show (90 + 1) = 91 by omega, fk_91]
    exact t2.2 x e he⟩
  rw [hmg'] at *
  have e1 := cellM_eq (fu := fu) (c := ca) (show a < 3 by omega) (hPM a q3) q4
  have e2 := cellM_eq (fu := fu) (c := cb) (show b < 3 by omega) (hPM b r3) r4
  rw [← q5 R] at e1
  rw [← r5 R] at e2
  have f49 := fun kk => find49 (fu := fu) (v := ov m R 0) (kk := kk) c2 (by omega) Gm.length 0 fu (by omega) (by omega)
  have eo0 : oI (lst (keyP Gm (ov m R 0)) 0) = -1 := rfl
  rw [eo0] at f49
  have eM : ∀ (P : Mem) (g : Nat), g < 12 → (P 54 g) + 1 = (P 54 g) + 1 → nm (up P 54 g ((P 54 g) + 1)) (fun M_12 => nm ((if (f_X11_isNumber (ov m R (nO - 1))) = 0 then 0 else (ov m R (nO - 1))) : Int32) (fun v_14 => nm (up M_12 55 g ((M_12 55 g) + v_14)) (fun M_15 => some M_15))) = some (up (up P 54 g (P 54 g + 1)) 55 g (P 55 g + (if f_X10_isNumber (ov m R (nO - 1)) = nI 0 then 0 else ov m R (nO - 1)))) := by
    intro P g _ _
    rw [nm_d, nm_d, nm_d, up_n (by omega), st_num hl]
    rfl
  have eM0 : f_X11_addsToGroup fu m = (if oI (lst (keyP Gm (ov m R 0)) Gm.length) = -1 then (nm (m 0 71) (fun x3_17 => grd (inb x3_17 12) (nm (up m 53 x3_17.toNatClampNeg (ov m R 0)) (fun M_19 => nm (up M_19 54 x3_17.toNatClampNeg 0) (fun M_20 => nm (up M_20 55 x3_17.toNatClampNeg 0) (fun M_21 => nm (up M_21 0 71 ((M_21 0 71) + 1)) (fun M_22 => grd (inb x3_17 12) (nm (up M_22 54 x3_17.toNatClampNeg ((M_22 54 x3_17.toNatClampNeg) + 1)) (fun M_12 => nm ((if (f_X11_isNumber (ov m R (nO - 1))) = 0 then 0 else (ov m R (nO - 1))) : Int32) (fun v_14 => nm (up M_12 55 x3_17.toNatClampNeg ((M_12 55 x3_17.toNatClampNeg) + v_14)) (fun M_15 => some M_15))))))))))) else grd (inb (oI (lst (keyP Gm (ov m R 0)) Gm.length)) 12) (nm (up m 54 (oI (lst (keyP Gm (ov m R 0)) Gm.length)).toNatClampNeg ((m 54 (oI (lst (keyP Gm (ov m R 0)) Gm.length)).toNatClampNeg) + 1)) (fun M_12 => nm ((if (f_X11_isNumber (ov m R (nO - 1))) = 0 then 0 else (ov m R (nO - 1))) : Int32) (fun v_14 => nm (up M_12 55 (oI (lst (keyP Gm (ov m R 0)) Gm.length)).toNatClampNeg ((M_12 55 (oI (lst (keyP Gm (ov m R 0)) Gm.length)).toNatClampNeg) + v_14)) (fun M_15 => some M_15))))) := by
    have f49' := f49 (fun (x3_7 : Int32) => jn (fun (x3_9 : Int32) (M_10 : Mem) => grd (inb x3_9 12) (nm (up M_10 54 x3_9.toNatClampNeg ((M_10 54 x3_9.toNatClampNeg) + 1)) (fun M_12 => nm ((if (f_X11_isNumber (ov m R (nO - 1))) = 0 then 0 else (ov m R (nO - 1))) : Int32) (fun v_14 => nm (up M_12 55 x3_9.toNatClampNeg ((M_12 55 x3_9.toNatClampNeg) + v_14)) (fun M_15 => some M_15))))) (fun k123_8 => (if x3_7 = (-1) then nm (m 0 71) (fun x3_17 => grd (inb x3_17 12) (nm (up m 53 x3_17.toNatClampNeg (ov m R 0)) (fun M_19 => nm (up M_19 54 x3_17.toNatClampNeg 0) (fun M_20 => nm (up M_20 55 x3_17.toNatClampNeg 0) (fun M_21 => nm (up M_21 0 71 ((M_21 0 71) + 1)) (fun M_22 => k123_8 x3_17 M_22)))))) else k123_8 x3_7 m)))
    refine Eq.trans ?_ f49'
    simp only [f_X11_addsToGroup, q1, q2, e1, bd_some, hnO.1, es, inb_nI (show nO - 1 < 3 by omega) (show 3 < 2 ^ 31 by omega), grd_true, i0, r1, r2, e2, jn_d]
    rfl
  cases hlst : lst (keyP Gm (ov m R 0)) Gm.length with
  | none =>
    have hnone := lst_none hlst
    have hne : ∀ e ∈ Gm, e.1 ≠ ov m R 0 := fun e he h => by
      obtain ⟨k, hk⟩ := List.mem_iff_getElem?.mp he
      have := hnone k (gl_lt hk)
      simp [keyP, hk, h] at this
    have hKU : KU (Gm ++ [gadd (ov m R 0, 0, 0) (ov m R (nO - 1))]) := c5.snoc (fun a ha => hne a ha)
    have hl1 := pig _ V hKU (fun e he => by
      rcases List.mem_append.mp he with h | h
      · exact (c6 e h).2
      · rw [List.mem_singleton.mp h]; exact hvV)
    simp at hl1
    have hg12 : Gm.length < 12 := by omega
    rw [hlst] at eM0
    have eo : oI (none : Option Nat) = -1 := rfl
    rw [eo, if_pos rfl, c2.1, nm_d, inb_nI hg12 (by omega), grd_true, nI_clamp (by omega), nm_d, nm_d, nm_d, nm_d, grd_true, eM _ Gm.length hg12 rfl] at eM0
    have hcpt : ∀ P : Grp → Bool, cpt P G' = cpt P (Gm ++ [gadd (ov m R 0, 0, 0) (ov m R (nO - 1))]) := fun P => by
      rw [cpt_app, ← c3 P]
      rcases t4 with ⟨q, e, w1, w2, w3⟩ | ⟨q, w1, w2, w3⟩
      · exact absurd w2 (hne e ((pe_mem c3).mp (List.mem_of_getElem? w1)))
      · rw [w3, cpt_ins w2]
        simp [cpt]
    have hGl : G'.length = Gm.length + 1 := by
      have := hcpt (fun _ => true)
      rw [cpt_len, cpt_len] at this
      rw [this]; simp
    refine ⟨N, _, G'.length, t1, eM0, ⟨G', Gm ++ [gadd (ov m R 0, 0, 0) (ov m R (nO - 1))], hCG, ⟨?_, fun x e he => ?_⟩, hcpt, t3, hKU, fun e he => ?_⟩, by omega, t5, fun a z1 z2 z3 z4 => ?_, fun j hj => ?_⟩
    · rw [up_n (by omega), up_n (by omega), up_s, up_n (by omega), up_n (by omega), up_n (by omega), c2.1, List.length_append]
      exact nI_add _ 1
    · by_cases hx : x = Gm.length
      · subst hx
        rw [List.getElem?_concat_length] at he
        cases he
        refine ⟨?_, ?_, ?_⟩
        · simp (disch := omega) only [up_n, up_s]; rfl
        · simp (disch := omega) only [up_n, up_s]; rfl
        · simp (disch := omega) only [up_n, up_s]; rfl
      · have hxl := gl_lt he
        simp at hxl
        rw [List.getElem?_append_left (by omega)] at he
        obtain ⟨d1, d2, d3⟩ := c2.2 x e he
        refine ⟨?_, ?_, ?_⟩
        · simp (disch := omega) only [up_n, up_m]; exact d1
        · simp (disch := omega) only [up_n, up_m]; exact d2
        · simp (disch := omega) only [up_n, up_m]; exact d3
    · rcases List.mem_append.mp he with h | h
      · exact c6 e h
      · rw [List.mem_singleton.mp h]; exact ⟨hv, hvV⟩
    · simp (disch := omega) only [up_n]
    · simp (disch := omega) only [up_n, up_m]
  | some g =>
    obtain ⟨k1, k2⟩ := lst_lt hlst
    obtain ⟨e, he⟩ := gl_ex (L := Gm) (i := g) k1
    have hev : e.1 = ov m R 0 := by simpa [keyP, he] using k2
    rw [hlst] at eM0
    have eo : oI (some g) = nI g := rfl
    have ine : ¬ nI g = -1 := i_nm1 (by omega)
    rw [eo, if_neg ine, inb_nI (show g < 12 by omega) (by omega), grd_true, nI_clamp (by omega), eM m g (by omega) rfl] at eM0
    obtain ⟨d1, d2, d3⟩ := c2.2 g e he
    have hcpt : ∀ P : Grp → Bool, cpt P G' = cpt P (Gm.set g (gadd e (ov m R (nO - 1)))) := fun P => by
      have hset := cpt_set (P := P) (e' := gadd e (ov m R (nO - 1))) he
      rcases t4 with ⟨q, e', w1, w2, w3⟩ | ⟨q, w1, w2, w3⟩
      · have hmem := (pe_mem c3).mp (List.mem_of_getElem? w1)
        obtain ⟨i', hi'⟩ := List.mem_iff_getElem?.mp hmem
        have hig := c5 i' g e' e hi' he (by rw [w2, hev])
        have hee : e' = e := by
          rw [hig] at hi'
          exact Option.some.inj (hi'.symm.trans he)
        rw [hee] at w1 w3
        have hset2 := cpt_set (P := P) (e' := gadd e (ov m R (nO - 1))) w1
        rw [w3]
        have := c3 P
        omega
      · exact absurd hev (w1 e ((pe_mem c3).mpr (List.mem_of_getElem? he)))
    have hGl : G'.length = Gm.length := by
      have := hcpt (fun _ => true)
      rw [cpt_len, cpt_len] at this
      rw [this]; simp
    refine ⟨N, _, G'.length, t1, eM0, ⟨G', Gm.set g (gadd e (ov m R (nO - 1))), hCG, ⟨?_, fun x e' he' => ?_⟩, hcpt, t3, c5.set he rfl, fun e' he' => ?_⟩, by omega, t5, fun a z1 z2 z3 z4 => ?_, fun j hj => ?_⟩
    · rw [up_n (by omega), up_n (by omega), List.length_set]; exact c2.1
    · rw [List.getElem?_set] at he'
      by_cases hx : g = x
      · subst hx
        rw [if_pos rfl, if_pos k1] at he'
        cases he'
        refine ⟨?_, ?_, ?_⟩
        · simp (disch := omega) only [up_n]; exact d1
        · simp (disch := omega) only [up_n, up_s]; rw [d2]; rfl
        · simp (disch := omega) only [up_s]; rw [d3]; rfl
      · rw [if_neg hx] at he'
        obtain ⟨y1, y2, y3⟩ := c2.2 x e' he'
        refine ⟨?_, ?_, ?_⟩
        · simp (disch := omega) only [up_n]; exact y1
        · simp (disch := omega) only [up_n, up_m]; exact y2
        · simp (disch := omega) only [up_n, up_m]; exact y3
    · rcases List.mem_or_eq_of_mem_set he' with h | rfl
      · exact c6 e' h
      · exact ⟨by show okc e.1; rw [hev]; exact hv, by show e.1 ∈ V; rw [hev]; exact hvV⟩
    · simp (disch := omega) only [up_n]
    · simp (disch := omega) only [up_n]
end Mat2
