/-! ===== a write is heard of: the class ===== -/
section HearC
variable {fu : Nat} {M N : Mem} {L : List Ent} {id : Nat → Nat}
theorem gl_ex {α : Type} {L : List α} {i : Nat} (h : i < L.length) : ∃ E, L[i]? = some E := ⟨L[i], List.getElem?_eq_getElem h⟩
theorem mapset {α : Type} {L : List α} {h : α → α} {i : Nat} {E : α} (hE : L[i]? = some E) : ((L.take i).map h ++ L.drop i).set i (h E) = (L.take (i + 1)).map h ++ L.drop (i + 1) := by
  have hi := gl_lt hE
  rw [List.getElem?_eq_getElem hi] at hE
  cases hE
  rw [List.drop_eq_getElem_cons hi, List.take_succ_eq_append_getElem hi, List.map_append, List.set_append_right _ _ (by simp; omega)]
  have : i - ((L.take i).map h).length = 0 := by simp; omega
  rw [this, List.set_cons_zero, List.append_assoc]
  rfl
theorem mapget {α : Type} {L : List α} {h : α → α} {i : Nat} {E : α} (hE : L[i]? = some E) : ((L.take i).map h ++ L.drop i)[i]? = some E := by
  have hi := gl_lt hE
  rw [List.getElem?_append_right (by simp; omega)]
  simp
  rw [show i - min i L.length = 0 by omega]
  simpa using hE
theorem maplen {α : Type} {L : List α} {h : α → α} {i : Nat} : ((L.take i).map h ++ L.drop i).length = L.length := by
  simp
  omega
theorem ECi_set {i : Nat} {E E' : Ent} (h : ECi M id L) (hE : L[i]? = some E) (h1 : ∀ a, a ≠ id i → N a = M a) (h2 : EC1 N (id i) E') : ECi N id (L.set i E') := by
  have hi := gl_lt hE
  obtain ⟨⟨a1, a2, a3⟩, a4, a5, a6⟩ := h
  have hk := a1 i (by omega)
  have hkb := kid_b hk
  refine ⟨⟨a1, a2, ?_⟩, ?_, by simpa using a5, fun j E1 hj => ?_⟩
  · rw [h1 3 (by omega)]; exact a3
  · rw [h1 2 (by omega)]; simpa using a4
  · rw [List.getElem?_set] at hj
    by_cases hij : i = j
    · subst hij
      rw [if_pos rfl, if_pos hi] at hj
      cases hj
      exact h2
    · rw [if_neg hij] at hj
      have hjl := gl_lt hj
      have hk2 := a1 j (by omega)
      have := kid_ne hk hk2 (fun e => hij (a2 i j (by omega) (by omega) e))
      exact (a6 j E1 hj).cg (fun a _ _ => h1 a (by omega))
theorem hear1 {s : Nat} {comes mom : Int32} {a : Nat} {E : Ent} (h : EC1 M a E) (hs : E.1 = s) (hc : comes < 2147483647) (hm : mom - 1 < 2147483647) (hu : ∀ u, E.2.2.2.1 = some u → u ≤ mom - 1) :
    EC1 (up (up M a 9 (if mom - 1 < nv E.2.2.2.1 then mom - 1 else nv E.2.2.2.1)) a 10 (if comes < nv E.2.2.2.2.1 then comes else nv E.2.2.2.2.1)) a (hearE s comes mom E) := by
  obtain ⟨⟨b1, b2, b3, b4, b5, b6, b7⟩, h3, h4, h5, h6⟩ := h
  simp only [hearE, if_pos hs]
  refine ⟨⟨?_, b2, ?_, ?_, ?_, ?_, ?_⟩, h3.cg (by rw [up_n (by omega), up_n (by omega)]) (by rw [up_n (by omega), up_n (by omega)]) (by rw [up_n (by omega), up_n (by omega)]), ?_, h5, ?_⟩
  · rw [up_m (by omega), up_m (by omega)]; exact b1
  · rw [up_m (by omega), up_m (by omega)]; exact b3
  · rw [up_m (by omega), up_m (by omega)]; exact b4
  · rw [up_m (by omega), up_m (by omega)]; exact b5
  · rw [up_m (by omega), up_s]
    cases h7 : E.2.2.2.1 with
    | none => rw [if_pos (show mom - 1 < nv none from hm)]; rfl
    | some u => rw [if_neg (show ¬ mom - 1 < nv (some u) from Int32.not_lt.mpr (hu u h7))]; rfl
  · rw [up_s]
    cases h7 : E.2.2.2.2.1 with
    | none => rw [if_pos (show comes < nv none from hc)]; rfl
    | some u => rfl
  · rw [up_m (by omega), up_m (by omega)]; exact h4
  · rw [up_n (by omega), up_n (by omega), up_n (by omega), up_n (by omega), up_n (by omega), up_n (by omega)]; exact h6
theorem hearL {s : Nat} {now mom : Int32} {lg : Nat → Int32} (hs : s < 6) (hnow : M 1 0 = now) (hmom : M 1 1 = mom) (hlg : M 4 (s / 2) = lg (s / 2)) (hc : now + lg (s / 2) < 2147483647) (hm : mom - 1 < 2147483647) (hu : ∀ E ∈ L, ∀ u, E.2.2.2.1 = some u → u ≤ mom - 1) : ∀ d i n (N : Mem), i + d = L.length → d < n → ECi N id ((L.take i).map (hearE s (now + lg (s / 2)) mom) ++ L.drop i) → (∀ a, a < 6 ∨ 47 < a → N a = M a) →
    Ok (f_X3_hear_L2 fu (nI s) n (nI i) N) (fun N' => ECi N' id (L.map (hearE s (now + lg (s / 2)) mom)) ∧ ∀ a, a < 6 ∨ 47 < a → N' a = M a) := by
  intro d
  induction d with
  | zero =>
    intro i n N h1 h2 hE hfr
    obtain ⟨n, rfl⟩ := fu1 h2
    have hcnt := hE.2.1
    have h6 := hE.2.2.1
    rw [maplen] at hcnt h6
    have h4 : L.length ≤ i := by omega
    simp (disch := omega) only [f_X3_hear_L2, hcnt, lit, nI_add, pk_mul, pk_sub, nI_clamp, inb_nI, nI_leI, nI_ltI, nI_eq, add_m1, ↓reduceIte, grd_true, nm_d, jn_d, bd_some, bm_some, om_some, om_none, h4]
    rw [List.take_of_length_le h4, List.drop_eq_nil_of_le h4, List.append_nil] at hE
    exact ok_some.mpr ⟨hE, hfr⟩
  | succ d ih =>
    intro i n N h1 h2 hE hfr
    obtain ⟨n, rfl⟩ := fu1 h2
    have hcnt := hE.2.1
    have h6 := hE.2.2.1
    rw [maplen] at hcnt h6
    have h4 : ¬ L.length ≤ i := by omega
    obtain ⟨E, hi⟩ := gl_ex (L := L) (i := i) (by omega)
    have e0 := mapget (h := hearE s (now + lg (s / 2)) mom) hi
    have e1 := hE.2.2.2 i E e0
    have hk := hE.1.1 i (by omega)
    have hkb := kid_b hk
    have a3 := hE.1.2.2 i (by omega)
    have c0 : N 1 = M 1 := hfr 1 (by omega)
    have c4 : N 4 = M 4 := hfr 4 (by omega)
    have hms := mapset (h := hearE s (now + lg (s / 2)) mom) hi
    obtain ⟨⟨b1, b2, b3, b4, b5, b6, b7⟩, _⟩ := (show _ ∧ _ from e1)
    by_cases hsrc : E.1 = s
    · have h7 := hear1 (s := s) (comes := now + lg (s / 2)) (mom := mom) e1 hsrc hc hm (hu E (List.mem_of_getElem? hi))
      have h8 := ih (i + 1) n (up (up N (id i) 9 (if mom - 1 < nv E.2.2.2.1 then mom - 1 else nv E.2.2.2.1)) (id i) 10 (if now + lg (s / 2) < nv E.2.2.2.2.1 then now + lg (s / 2) else nv E.2.2.2.2.1)) (by omega) (by omega)
        (by rw [← hms]; exact ECi_set hE e0 (fun a ha => by rw [up_n ha, up_n ha]) h7)
        (fun a ha => by rw [up_n (by omega), up_n (by omega), hfr a ha])
      have hlt : E.1 / 2 < 3 := by omega
      simp (disch := omega) only [f_X3_hear_L2, hcnt, lit, nI_add, pk_mul, pk_sub, nI_clamp, inb_nI, nI_leI, nI_ltI, nI_eq, add_m1, ↓reduceIte, grd_true, nm_d, jn_d, bd_some, bm_some, om_some, om_none, h4, a3, kid_kb hk, b1, hsrc, up_m, up_n, b3, b7, c0, c4, hnow, hmom, hlg, b6]
      exact h8
    · have hne : ¬ nI E.1 = nI s := by rw [nI_eq (by omega) (by omega)]; exact hsrc
      have h8 := ih (i + 1) n N (by omega) (by omega) (by
        rw [← hms]
        have : (hearE s (now + lg (s / 2)) mom E) = E := by simp only [hearE, if_neg hsrc]
        rw [this]
        exact ECi_set hE e0 (fun _ _ => rfl) e1) hfr
      simp (disch := omega) only [f_X3_hear_L2, hcnt, lit, nI_add, pk_mul, pk_sub, nI_clamp, inb_nI, nI_leI, nI_ltI, nI_eq, add_m1, ↓reduceIte, grd_true, nm_d, jn_d, bd_some, bm_some, om_some, om_none, h4, a3, kid_kb hk, b1, hsrc]
      exact h8
theorem hear_ok {s : Nat} {now mom : Int32} {lg : Nat → Int32} (hfu : 5000 ≤ fu) (hs : s < 6) (hnow : M 1 0 = now) (hmom : M 1 1 = mom) (hlg : M 4 (s / 2) = lg (s / 2)) (hc : now + lg (s / 2) < 2147483647) (hm : mom - 1 < 2147483647) (hu : ∀ E ∈ L, ∀ u, E.2.2.2.1 = some u → u ≤ mom - 1) (h : EC M L) :
    Ok (f_X3_hear fu (nI s) M) (fun N => EC N (L.map (hearE s (now + lg (s / 2)) mom)) ∧ ∀ a, a < 6 ∨ 47 < a → N a = M a) := by
  obtain ⟨id, hid⟩ := h
  have h6 := hid.2.2.1
  exact (hearL (M := M) (L := L) (id := id) (fu := fu) hs hnow hmom hlg hc hm hu L.length 0 fu M (by omega) (by omega) (by simpa using hid) (fun _ _ => rfl)).imp (fun N h => ⟨⟨id, h.1⟩, h.2⟩)
/-- what a write does to the entries -/
def wrE (s : Nat) (now mom : Int32) (lg ls : Nat → Int32) (L : List Ent) : List Ent := (L.map (hearE s (now + lg (s / 2)) mom)).filter (fun E => !gone now ls E)
theorem write_ok {s : Nat} {now mom : Int32} {lg ls : Nat → Int32} (hfu : 5000 ≤ fu) (hs : s < 6) (hnow : M 1 0 = now) (hmom : M 1 1 = mom) (hlg : ∀ j, j < 3 → M 4 j = lg j) (hls : ∀ j, j < 3 → M 5 j = ls j) (hn : now < 2147483647) (hc : now + lg (s / 2) < 2147483647) (hm : mom < 2147483647) (hu : ∀ E ∈ L, ∀ u, E.2.2.2.1 = some u → u ≤ mom) (h : EC M L) :
    Ok (f_X7_write fu (nI s) M) (fun N => EC N (wrE s now (mom + 1) lg ls L) ∧ N 1 0 = now ∧ N 1 1 = mom + 1 ∧ N 60 = upd (M 60) s (mom + 1) ∧ ∀ a, a ≠ 1 → a ≠ 60 → (a < 2 ∨ 47 < a ∨ a = 4 ∨ a = 5) → N a = M a) := by
  have hm1 : mom + 1 - 1 = mom := by grind
  simp (disch := omega) only [f_X7_write, hmom, nm_d, lit, inb_nI, grd_true, nI_clamp, up_s]
  rw [ok_bd]
  have h1 : EC (up (up M 1 1 (mom + nI 1)) 60 s (mom + nI 1)) L := h.cg (fun i _ _ _ _ => by rw [up_n (by omega), up_n (by omega)])
  refine (hear_ok (s := s) (now := now) (mom := mom + 1) (lg := lg) hfu hs ?_ ?_ ?_ hc (by rw [hm1]; exact hm) (by rw [hm1]; exact hu) h1).imp ?_
  · rw [up_n (by omega), up_m (by omega)]; exact hnow
  · rw [up_n (by omega), up_s]; rfl
  · rw [up_n (by omega), up_n (by omega)]; exact hlg _ (by omega)
  · intro N hN
    rw [ok_bd]
    refine (sweep_ok (now := now) (ls := ls) hfu hn ?_ ?_ hN.1).imp ?_
    · rw [hN.2 1 (by omega), up_n (by omega), up_m (by omega)]; exact hnow
    · intro j hj; rw [hN.2 5 (by omega), up_n (by omega), up_n (by omega)]; exact hls j hj
    · intro N' hN'
      rw [ok_some]
      refine ⟨hN'.1, ?_, ?_, ?_, fun a h2 h3 h4 => ?_⟩
      · rw [hN'.2 1 (by omega) (by omega), hN.2 1 (by omega), up_n (by omega), up_m (by omega)]; exact hnow
      · rw [hN'.2 1 (by omega) (by omega), hN.2 1 (by omega), up_n (by omega), up_s]
      · rw [hN'.2 60 (by omega) (by omega), hN.2 60 (by omega), up_r, up_n (by omega)]
      · rw [hN'.2 a (by omega) (by omega), hN.2 a (by omega), up_n h3, up_n h2]
end HearC
